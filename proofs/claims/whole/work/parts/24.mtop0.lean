theorem b139 {K : zKt} {code rf rs pr pn : Int32} {bad : Bool} {J : zJt} {m pa pb pc vf vs : Nat → Int32} {B : zBt} {w : Nat → Int64} {p : Nat × Nat} {Q : zR → zH → Prop} {a0 a1 a2 a3 : Int32} (H : (((zslot a0) = true → ∀ k_a0, k_a0 < 3 → a0 = Int32.ofNat k_a0 → (((zisr a1) = false → Q (.inl (some (.int (0 : Int32)))) (zh K ((2 : Int32), rf, rs, bad, pr, pn, J) (m, pa, pb, pc, vf, vs, B) w)) ∧ ((zisr a1) = true → ∀ k_a1, zrg k_a1 → a1 = Int32.ofNat k_a1 → (((zin ((a2).toInt64) (1 : Int64) (4 : Int64)) = false → Q (.inl (some (.int (0 : Int32)))) (zh K ((2 : Int32), rf, rs, bad, pr, pn, J) (m, pa, pb, pc, vf, vs, B) w)) ∧ ((zin ((a2).toInt64) (1 : Int64) (4 : Int64)) = true → ∀ k_a2, 1 ≤ k_a2 ∧ k_a2 ≤ 4 → a2 = Int32.ofNat k_a2 → (((zin ((a3).toInt64) (1 : Int64) (4 : Int64)) = true → ∀ k_a3, 1 ≤ k_a3 ∧ k_a3 ≤ 4 → a3 = Int32.ofNat k_a3 → (1068 * k_a0 < 5340 ∧ (((decide (m (1068 * k_a0) = -1)) = false → zT zm_145 [.ref 75, .int ((1068 : Int32) * (Int32.ofNat k_a0)), .int (Int32.ofNat k_a1), .int (Int32.ofNat k_a2), .int (Int32.ofNat k_a3)] p (zh K ((0 : Int32), rf, rs, bad, pr, pn, J) (m, pa, pb, pc, vf, vs, B) w) (zK zm_139 84 [none, none, none, none, none, some (.int (Int32.ofNat 0))] [] p Q)) ∧ ((decide (m (1068 * k_a0) = -1)) = true → zT zm_145 [.ref 75, .int ((1068 : Int32) * (Int32.ofNat k_a0)), .int (Int32.ofNat k_a1), .int (Int32.ofNat k_a2), .int (Int32.ofNat k_a3)] p (zh K ((0 : Int32), rf, rs, bad, pr, pn, J) (m, pa, pb, pc, vf, vs, B) w) (zK zm_139 84 [none, none, none, none, none, some (.int (Int32.ofNat 1))] [] p Q))))) ∧ ((zin ((a3).toInt64) (1 : Int64) (4 : Int64)) = false → Q (.inl (some (.int (0 : Int32)))) (zh K ((2 : Int32), rf, rs, bad, pr, pn, J) (m, pa, pb, pc, vf, vs, B) w)))))))) ∧ ((zslot a0) = false → Q (.inl (some (.int (0 : Int32)))) (zh K ((1 : Int32), rf, rs, bad, pr, pn, J) (m, pa, pb, pc, vf, vs, B) w)))) : zT zm_139 [.ref 75, .int a0, .int a1, .int a2, .int a3] p (zh K (code, rf, rs, bad, pr, pn, J) (m, pa, pb, pc, vf, vs, B) w) Q := by
  change zW zm_139 0 [some (.ref 75), some (.int a0), some (.int a1), some (.int a2), some (.int a3), none] [] p _ Q
  refine zW_gh 2 [some (.ref 75), some (.int a0), some (.int a1), some (.int a2), some (.int a3), none] [.int (0 : Int32), .ref 75] 2 (fun f => rfl) ?_
  refine zW_go (pc' := 5) (L' := [some (.ref 75), some (.int a0), some (.int a1), some (.int a2), some (.int a3), none]) (st' := []) (h' := (va_up (zh K (code, rf, rs, bad, pr, pn, J) (m, pa, pb, pc, vf, vs, B) w) 75 (.inr (7, zfl ((0 : Int32), rf, rs, bad, pr, pn, J))))) 1 (fun f => rfl) ?_
  refine zW_eq zu_75 ?_
  refine zW_gh 6 [some (.ref 75), some (.int a0), some (.int a1), some (.int a2), some (.int a3), none] [.int a0] 1 (fun f => rfl) ?_
  refine zW_cl rfl rfl rfl rfl rfl (s140 ?_)
  change zW zm_139 9 [some (.ref 75), some (.int a0), some (.int a1), some (.int a2), some (.int a3), none] [.int (zbi (zslot a0))] p _ Q
  refine zW_bh (zcmp .ne (zbi (zslot a0)) (0 : Int32)) 18 12 [some (.ref 75), some (.int a0), some (.int a1), some (.int a2), some (.int a3), none] [] 1 (fun f => rfl) (fun c => ?_) (fun c => ?_)
  · have c9 : (zslot a0) = true := ((zcB_ne _).symm.trans c)
    replace H := H.1 c9
    obtain ⟨k_a0, h_k_a0, e_k_a0⟩ := zslot_n c9
    replace H := H k_a0 h_k_a0 e_k_a0
    subst e_k_a0
    refine zW_gh 19 [some (.ref 75), some (.int (Int32.ofNat k_a0)), some (.int a1), some (.int a2), some (.int a3), none] [.int a1] 1 (fun f => rfl) ?_
    refine zW_cl rfl rfl rfl rfl rfl (s143 ?_)
    change zW zm_139 22 [some (.ref 75), some (.int (Int32.ofNat k_a0)), some (.int a1), some (.int a2), some (.int a3), none] [.int (zbi (zisr a1))] p _ Q
    refine zW_bh (zcmp .eq (zbi (zisr a1)) (0 : Int32)) 50 25 [some (.ref 75), some (.int (Int32.ofNat k_a0)), some (.int a1), some (.int a2), some (.int a3), none] [] 1 (fun f => rfl) (fun c => ?_) (fun c => ?_)
    · have c9 : (zisr a1) = false := ((Bool.not_eq_true' _).mp ((zcB_eq _).symm.trans c))
      replace H := H.1 c9
      refine zW_gh 52 [some (.ref 75), some (.int (Int32.ofNat k_a0)), some (.int a1), some (.int a2), some (.int a3), none] [.int (2 : Int32), .ref 75] 2 (fun f => rfl) ?_
      refine zW_cl rfl rfl rfl rfl rfl (s142 ?_)
      change zW zm_139 55 [some (.ref 75), some (.int (Int32.ofNat k_a0)), some (.int a1), some (.int a2), some (.int a3), none] [.int (0 : Int32)] p _ Q
      exact zW_rh (some (.int (0 : Int32))) 1 (fun f => rfl) H
    · have c9 : (zisr a1) = true := ((Bool.not_eq_false' _).mp ((zcB_eq _).symm.trans c))
      replace H := H.2 c9
      obtain ⟨k_a1, h_k_a1, e_k_a1⟩ := zisr_n c9
      replace H := H k_a1 h_k_a1 e_k_a1
      subst e_k_a1
      refine zW_gh 31 [some (.ref 75), some (.int (Int32.ofNat k_a0)), some (.int (Int32.ofNat k_a1)), some (.int a2), some (.int a3), none] [.long (4 : Int64), .long (1 : Int64), .long ((a2).toInt64)] 4 (fun f => rfl) ?_
      refine zW_cl rfl rfl rfl rfl rfl (s141 ?_)
      change zW zm_139 34 [some (.ref 75), some (.int (Int32.ofNat k_a0)), some (.int (Int32.ofNat k_a1)), some (.int a2), some (.int a3), none] [.int (zbi (zin ((a2).toInt64) (1 : Int64) (4 : Int64)))] p _ Q
      refine zW_bh (zcmp .eq (zbi (zin ((a2).toInt64) (1 : Int64) (4 : Int64))) (0 : Int32)) 50 37 [some (.ref 75), some (.int (Int32.ofNat k_a0)), some (.int (Int32.ofNat k_a1)), some (.int a2), some (.int a3), none] [] 1 (fun f => rfl) (fun c => ?_) (fun c => ?_)
      · have c9 : (zin ((a2).toInt64) (1 : Int64) (4 : Int64)) = false := ((Bool.not_eq_true' _).mp ((zcB_eq _).symm.trans c))
        replace H := H.1 c9
        refine zW_gh 52 [some (.ref 75), some (.int (Int32.ofNat k_a0)), some (.int (Int32.ofNat k_a1)), some (.int a2), some (.int a3), none] [.int (2 : Int32), .ref 75] 2 (fun f => rfl) ?_
        refine zW_cl rfl rfl rfl rfl rfl (s142 ?_)
        change zW zm_139 55 [some (.ref 75), some (.int (Int32.ofNat k_a0)), some (.int (Int32.ofNat k_a1)), some (.int a2), some (.int a3), none] [.int (0 : Int32)] p _ Q
        exact zW_rh (some (.int (0 : Int32))) 1 (fun f => rfl) H
      · have c9 : (zin ((a2).toInt64) (1 : Int64) (4 : Int64)) = true := ((Bool.not_eq_false' _).mp ((zcB_eq _).symm.trans c))
        replace H := H.2 c9
        obtain ⟨k_a2, h_k_a2, e_k_a2⟩ := zin_k (l := 1) (h := 4) (by decide) (by decide) c9
        replace H := H k_a2 h_k_a2 e_k_a2
        subst e_k_a2
        refine zW_gh 44 [some (.ref 75), some (.int (Int32.ofNat k_a0)), some (.int (Int32.ofNat k_a1)), some (.int (Int32.ofNat k_a2)), some (.int a3), none] [.long (4 : Int64), .long (1 : Int64), .long ((a3).toInt64)] 4 (fun f => rfl) ?_
        refine zW_cl rfl rfl rfl rfl rfl (s141 ?_)
        change zW zm_139 47 [some (.ref 75), some (.int (Int32.ofNat k_a0)), some (.int (Int32.ofNat k_a1)), some (.int (Int32.ofNat k_a2)), some (.int a3), none] [.int (zbi (zin ((a3).toInt64) (1 : Int64) (4 : Int64)))] p _ Q
        refine zW_bh (zcmp .ne (zbi (zin ((a3).toInt64) (1 : Int64) (4 : Int64))) (0 : Int32)) 56 50 [some (.ref 75), some (.int (Int32.ofNat k_a0)), some (.int (Int32.ofNat k_a1)), some (.int (Int32.ofNat k_a2)), some (.int a3), none] [] 1 (fun f => rfl) (fun c => ?_) (fun c => ?_)
        · have c9 : (zin ((a3).toInt64) (1 : Int64) (4 : Int64)) = true := ((zcB_ne _).symm.trans c)
          replace H := H.1 c9
          obtain ⟨k_a3, h_k_a3, e_k_a3⟩ := zin_k (l := 1) (h := 4) (by decide) (by decide) c9
          replace H := H k_a3 h_k_a3 e_k_a3
          subst e_k_a3
          refine zW_gh 58 [some (.ref 75), some (.int (Int32.ofNat k_a0)), some (.int (Int32.ofNat k_a1)), some (.int (Int32.ofNat k_a2)), some (.int (Int32.ofNat k_a3)), none] [.int (Int32.ofNat k_a0), .ref 75] 2 (fun f => rfl) ?_
          obtain ⟨h1, H⟩ := H
          refine zW_cl rfl rfl rfl rfl rfl ((s144 rfl) h1 ?_)
          change zW zm_139 61 [some (.ref 75), some (.int (Int32.ofNat k_a0)), some (.int (Int32.ofNat k_a1)), some (.int (Int32.ofNat k_a2)), some (.int (Int32.ofNat k_a3)), none] [.int (zbi (decide (m (1068 * k_a0) = -1)))] p _ Q
          refine zW_bh (zcmp .eq (zbi (decide (m (1068 * k_a0) = -1))) (0 : Int32)) 68 64 [some (.ref 75), some (.int (Int32.ofNat k_a0)), some (.int (Int32.ofNat k_a1)), some (.int (Int32.ofNat k_a2)), some (.int (Int32.ofNat k_a3)), none] [] 1 (fun f => rfl) (fun c => ?_) (fun c => ?_)
          · have c9 : (decide (m (1068 * k_a0) = -1)) = false := ((Bool.not_eq_true' _).mp ((zcB_eq _).symm.trans c))
            replace H := H.1 c9
            refine zW_gh 81 [some (.ref 75), some (.int (Int32.ofNat k_a0)), some (.int (Int32.ofNat k_a1)), some (.int (Int32.ofNat k_a2)), some (.int (Int32.ofNat k_a3)), some (.int (0 : Int32))] [.int (Int32.ofNat k_a3), .int (Int32.ofNat k_a2), .int (Int32.ofNat k_a1), .int ((1068 : Int32) * (Int32.ofNat k_a0)), .ref 75] 9 (fun f => rfl) ?_
            refine zW_fg (L' := [none, none, none, none, none, some (.int (0 : Int32))]) (zle_n _ (zle_n _ (zle_n _ (zle_n _ (zle_n _ (zle_s _ zle_nil)))))) ?_
            exact zW_cl rfl rfl rfl rfl rfl H
          · have c9 : (decide (m (1068 * k_a0) = -1)) = true := ((Bool.not_eq_false' _).mp ((zcB_eq _).symm.trans c))
            replace H := H.2 c9
            refine zW_gh 79 [some (.ref 75), some (.int (Int32.ofNat k_a0)), some (.int (Int32.ofNat k_a1)), some (.int (Int32.ofNat k_a2)), some (.int (Int32.ofNat k_a3)), some (.int (1 : Int32))] [.int (Int32.ofNat k_a2), .int (Int32.ofNat k_a1), .int ((1068 : Int32) * (Int32.ofNat k_a0)), .ref 75] 9 (fun f => rfl) ?_
            refine zW_gh 81 [some (.ref 75), some (.int (Int32.ofNat k_a0)), some (.int (Int32.ofNat k_a1)), some (.int (Int32.ofNat k_a2)), some (.int (Int32.ofNat k_a3)), some (.int (1 : Int32))] [.int (Int32.ofNat k_a3), .int (Int32.ofNat k_a2), .int (Int32.ofNat k_a1), .int ((1068 : Int32) * (Int32.ofNat k_a0)), .ref 75] 1 (fun f => rfl) ?_
            refine zW_fg (L' := [none, none, none, none, none, some (.int (1 : Int32))]) (zle_n _ (zle_n _ (zle_n _ (zle_n _ (zle_n _ (zle_s _ zle_nil)))))) ?_
            exact zW_cl rfl rfl rfl rfl rfl H
        · have c9 : (zin ((a3).toInt64) (1 : Int64) (4 : Int64)) = false := ((zcB_ne _).symm.trans c)
          replace H := H.2 c9
          refine zW_gh 52 [some (.ref 75), some (.int (Int32.ofNat k_a0)), some (.int (Int32.ofNat k_a1)), some (.int (Int32.ofNat k_a2)), some (.int a3), none] [.int (2 : Int32), .ref 75] 2 (fun f => rfl) ?_
          refine zW_cl rfl rfl rfl rfl rfl (s142 ?_)
          change zW zm_139 55 [some (.ref 75), some (.int (Int32.ofNat k_a0)), some (.int (Int32.ofNat k_a1)), some (.int (Int32.ofNat k_a2)), some (.int a3), none] [.int (0 : Int32)] p _ Q
          exact zW_rh (some (.int (0 : Int32))) 1 (fun f => rfl) H
  · have c9 : (zslot a0) = false := ((zcB_ne _).symm.trans c)
    replace H := H.2 c9
    refine zW_gh 14 [some (.ref 75), some (.int a0), some (.int a1), some (.int a2), some (.int a3), none] [.int (1 : Int32), .ref 75] 2 (fun f => rfl) ?_
    refine zW_cl rfl rfl rfl rfl rfl (s142 ?_)
    change zW zm_139 17 [some (.ref 75), some (.int a0), some (.int a1), some (.int a2), some (.int a3), none] [.int (0 : Int32)] p _ Q
    exact zW_rh (some (.int (0 : Int32))) 1 (fun f => rfl) H
theorem b139_84 {K : zKt} {code rf rs pr pn : Int32} {bad : Bool} {J : zJt} {m pa pb pc vf vs : Nat → Int32} {B : zBt} {w : Nat → Int64} {p : Nat × Nat} {Q : zR → zH → Prop} {x5 : Nat} (H : Q (.inl (some (.int (Int32.ofNat x5)))) (zh K (code, rf, rs, bad, pr, pn, J) (m, pa, pb, pc, vf, vs, B) w)) : zW zm_139 84 [none, none, none, none, none, some (.int (Int32.ofNat x5))] [] p (zh K (code, rf, rs, bad, pr, pn, J) (m, pa, pb, pc, vf, vs, B) w) Q := by
  refine zW_gh 86 [none, none, none, none, none, some (.int (Int32.ofNat x5))] [.int (Int32.ofNat x5)] 1 (fun f => rfl) ?_
  exact zW_rh (some (.int (Int32.ofNat x5))) 1 (fun f => rfl) H
theorem b147 {K : zKt} {code rf rs pr pn : Int32} {bad : Bool} {J : zJt} {m pa pb pc vf vs : Nat → Int32} {B : zBt} {w : Nat → Int64} {p : Nat × Nat} {Q : zR → zH → Prop} {a0 a1 a2 a3 a4 : Int32} (H : (((zslot a0) = true → ∀ k_a0, k_a0 < 3 → a0 = Int32.ofNat k_a0 → (1068 * k_a0 < 5340 ∧ (((decide (m (1068 * k_a0) = -1)) = false → (1068 * k_a0 + 2 < 5340 ∧ (((zhasE m k_a0 a1 a2) = false → Q (.inl (some (.int (0 : Int32)))) (zh K ((3 : Int32), rf, rs, bad, pr, pn, J) (m, pa, pb, pc, vf, vs, B) w)) ∧ ((zhasE m k_a0 a1 a2) = true → ∀ k_a1, k_a1 < 2147483648 → a1 = Int32.ofNat k_a1 → ∀ k_a2, k_a2 < 2147483648 → a2 = Int32.ofNat k_a2 → (((1068 * k_a0) + 0) < 5340 ∧ (((zise (m ((1068 * k_a0) + 0)) a3 a4) = true → (((((1068 * k_a0) + 4) + (8 * k_a1)) + (2 * k_a2)) < 5340 ∧ (((((1068 * k_a0) + 4) + (8 * k_a1)) + (2 * k_a2)) + 1 < 5340 ∧ zT zm_146 [.ref 75, .int ((1068 : Int32) * (Int32.ofNat k_a0))] p (zh K ((0 : Int32), rf, rs, bad, pr, pn, J) ((va_up (va_up m ((((1068 * k_a0) + 4) + (8 * k_a1)) + (2 * k_a2)) a3) (((((1068 * k_a0) + 4) + (8 * k_a1)) + (2 * k_a2)) + 1) a4), pa, pb, pc, vf, vs, B) w) (zK zm_147 110 [none, none, none, none, none, none, none, some (.int (m ((((1068 * k_a0) + 4) + (8 * k_a1)) + (2 * k_a2))))] [] p Q)))) ∧ ((zise (m ((1068 * k_a0) + 0)) a3 a4) = false → Q (.inl (some (.int (0 : Int32)))) (zh K ((3 : Int32), rf, rs, bad, pr, pn, J) (m, pa, pb, pc, vf, vs, B) w)))))))) ∧ ((decide (m (1068 * k_a0) = -1)) = true → Q (.inl (some (.int (0 : Int32)))) (zh K ((2 : Int32), rf, rs, bad, pr, pn, J) (m, pa, pb, pc, vf, vs, B) w))))) ∧ ((zslot a0) = false → Q (.inl (some (.int (0 : Int32)))) (zh K ((1 : Int32), rf, rs, bad, pr, pn, J) (m, pa, pb, pc, vf, vs, B) w)))) : zT zm_147 [.ref 75, .int a0, .int a1, .int a2, .int a3, .int a4] p (zh K (code, rf, rs, bad, pr, pn, J) (m, pa, pb, pc, vf, vs, B) w) Q := by
  change zW zm_147 0 [some (.ref 75), some (.int a0), some (.int a1), some (.int a2), some (.int a3), some (.int a4), none, none] [] p _ Q
  refine zW_gh 2 [some (.ref 75), some (.int a0), some (.int a1), some (.int a2), some (.int a3), some (.int a4), none, none] [.int (0 : Int32), .ref 75] 2 (fun f => rfl) ?_
  refine zW_go (pc' := 5) (L' := [some (.ref 75), some (.int a0), some (.int a1), some (.int a2), some (.int a3), some (.int a4), none, none]) (st' := []) (h' := (va_up (zh K (code, rf, rs, bad, pr, pn, J) (m, pa, pb, pc, vf, vs, B) w) 75 (.inr (7, zfl ((0 : Int32), rf, rs, bad, pr, pn, J))))) 1 (fun f => rfl) ?_
  refine zW_eq zu_75 ?_
  refine zW_gh 6 [some (.ref 75), some (.int a0), some (.int a1), some (.int a2), some (.int a3), some (.int a4), none, none] [.int a0] 1 (fun f => rfl) ?_
  refine zW_cl rfl rfl rfl rfl rfl (s140 ?_)
  change zW zm_147 9 [some (.ref 75), some (.int a0), some (.int a1), some (.int a2), some (.int a3), some (.int a4), none, none] [.int (zbi (zslot a0))] p _ Q
  refine zW_bh (zcmp .ne (zbi (zslot a0)) (0 : Int32)) 18 12 [some (.ref 75), some (.int a0), some (.int a1), some (.int a2), some (.int a3), some (.int a4), none, none] [] 1 (fun f => rfl) (fun c => ?_) (fun c => ?_)
  · have c9 : (zslot a0) = true := ((zcB_ne _).symm.trans c)
    replace H := H.1 c9
    obtain ⟨k_a0, h_k_a0, e_k_a0⟩ := zslot_n c9
    replace H := H k_a0 h_k_a0 e_k_a0
    subst e_k_a0
    refine zW_gh 20 [some (.ref 75), some (.int (Int32.ofNat k_a0)), some (.int a1), some (.int a2), some (.int a3), some (.int a4), none, none] [.int (Int32.ofNat k_a0), .ref 75] 2 (fun f => rfl) ?_
    obtain ⟨h1, H⟩ := H
    refine zW_cl rfl rfl rfl rfl rfl ((s144 rfl) h1 ?_)
    change zW zm_147 23 [some (.ref 75), some (.int (Int32.ofNat k_a0)), some (.int a1), some (.int a2), some (.int a3), some (.int a4), none, none] [.int (zbi (decide (m (1068 * k_a0) = -1)))] p _ Q
    refine zW_bh (zcmp .eq (zbi (decide (m (1068 * k_a0) = -1))) (0 : Int32)) 32 26 [some (.ref 75), some (.int (Int32.ofNat k_a0)), some (.int a1), some (.int a2), some (.int a3), some (.int a4), none, none] [] 1 (fun f => rfl) (fun c => ?_) (fun c => ?_)
    · have c9 : (decide (m (1068 * k_a0) = -1)) = false := ((Bool.not_eq_true' _).mp ((zcB_eq _).symm.trans c))
      replace H := H.1 c9
      refine zW_gh 36 [some (.ref 75), some (.int (Int32.ofNat k_a0)), some (.int a1), some (.int a2), some (.int a3), some (.int a4), none, none] [.int a2, .int a1, .int (Int32.ofNat k_a0), .ref 75] 4 (fun f => rfl) ?_
      obtain ⟨h2, H⟩ := H
      refine zW_cl rfl rfl rfl rfl rfl ((s148 rfl) h2 ?_)
      change zW zm_147 39 [some (.ref 75), some (.int (Int32.ofNat k_a0)), some (.int a1), some (.int a2), some (.int a3), some (.int a4), none, none] [.int (zbi (zhasE m k_a0 a1 a2))] p _ Q
      refine zW_bh (zcmp .eq (zbi (zhasE m k_a0 a1 a2)) (0 : Int32)) 64 42 [some (.ref 75), some (.int (Int32.ofNat k_a0)), some (.int a1), some (.int a2), some (.int a3), some (.int a4), none, none] [] 1 (fun f => rfl) (fun c => ?_) (fun c => ?_)
      · have c9 : (zhasE m k_a0 a1 a2) = false := ((Bool.not_eq_true' _).mp ((zcB_eq _).symm.trans c))
        replace H := H.1 c9
        refine zW_gh 66 [some (.ref 75), some (.int (Int32.ofNat k_a0)), some (.int a1), some (.int a2), some (.int a3), some (.int a4), none, none] [.int (3 : Int32), .ref 75] 2 (fun f => rfl) ?_
        refine zW_cl rfl rfl rfl rfl rfl (s142 ?_)
        change zW zm_147 69 [some (.ref 75), some (.int (Int32.ofNat k_a0)), some (.int a1), some (.int a2), some (.int a3), some (.int a4), none, none] [.int (0 : Int32)] p _ Q
        exact zW_rh (some (.int (0 : Int32))) 1 (fun f => rfl) H
      · have c9 : (zhasE m k_a0 a1 a2) = true := ((Bool.not_eq_false' _).mp ((zcB_eq _).symm.trans c))
        replace H := H.2 c9
        obtain ⟨k_a1, h_k_a1, e_k_a1⟩ := zhasE_r c9
        replace H := H k_a1 h_k_a1 e_k_a1
        subst e_k_a1
        obtain ⟨k_a2, h_k_a2, e_k_a2⟩ := zhasE_c c9
        replace H := H k_a2 h_k_a2 e_k_a2
        subst e_k_a2
        refine zW_gh 53 [some (.ref 75), some (.int (Int32.ofNat k_a0)), some (.int (Int32.ofNat k_a1)), some (.int (Int32.ofNat k_a2)), some (.int a3), some (.int a4), none, none] [.int (((1068 : Int32) * (Int32.ofNat k_a0)) + (0 : Int32)), .ref 76] 7 (fun f => rfl) ?_
        obtain ⟨h3, H⟩ := H
        refine zW_iald rfl (by decide) rfl (by decide) (zN_a (zN_m rfl rfl) rfl) h3 ?_
        refine zW_gh 58 [some (.ref 75), some (.int (Int32.ofNat k_a0)), some (.int (Int32.ofNat k_a1)), some (.int (Int32.ofNat k_a2)), some (.int a3), some (.int a4), none, none] [.int a4, .int a3, .int (m ((1068 * k_a0) + 0))] 2 (fun f => rfl) ?_
        refine zW_cl rfl rfl rfl rfl rfl (s149 ?_)
        change zW zm_147 61 [some (.ref 75), some (.int (Int32.ofNat k_a0)), some (.int (Int32.ofNat k_a1)), some (.int (Int32.ofNat k_a2)), some (.int a3), some (.int a4), none, none] [.int (zbi (zise (m ((1068 * k_a0) + 0)) a3 a4))] p _ Q
        refine zW_bh (zcmp .ne (zbi (zise (m ((1068 * k_a0) + 0)) a3 a4)) (0 : Int32)) 70 64 [some (.ref 75), some (.int (Int32.ofNat k_a0)), some (.int (Int32.ofNat k_a1)), some (.int (Int32.ofNat k_a2)), some (.int a3), some (.int a4), none, none] [] 1 (fun f => rfl) (fun c => ?_) (fun c => ?_)
        · have c9 : (zise (m ((1068 * k_a0) + 0)) a3 a4) = true := ((zcB_ne _).symm.trans c)
          replace H := H.1 c9
          refine zW_gh 77 [some (.ref 75), some (.int (Int32.ofNat k_a0)), some (.int (Int32.ofNat k_a1)), some (.int (Int32.ofNat k_a2)), some (.int a3), some (.int a4), none, none] [.int (Int32.ofNat k_a2), .int (Int32.ofNat k_a1), .int ((1068 : Int32) * (Int32.ofNat k_a0))] 5 (fun f => rfl) ?_
          refine zW_cl rfl rfl rfl rfl rfl (s151 ?_)
          change zW zm_147 80 [some (.ref 75), some (.int (Int32.ofNat k_a0)), some (.int (Int32.ofNat k_a1)), some (.int (Int32.ofNat k_a2)), some (.int a3), some (.int a4), none, none] [.int (((((1068 : Int32) * (Int32.ofNat k_a0)) + (4 : Int32)) + ((8 : Int32) * (Int32.ofNat k_a1))) + ((2 : Int32) * (Int32.ofNat k_a2)))] p _ Q
          refine zW_gh 82 [some (.ref 75), some (.int (Int32.ofNat k_a0)), some (.int (Int32.ofNat k_a1)), some (.int (Int32.ofNat k_a2)), some (.int a3), some (.int a4), some (.int (((((1068 : Int32) * (Int32.ofNat k_a0)) + (4 : Int32)) + ((8 : Int32) * (Int32.ofNat k_a1))) + ((2 : Int32) * (Int32.ofNat k_a2)))), none] [] 1 (fun f => rfl) ?_
          rw [show (((((1068 : Int32) * (Int32.ofNat k_a0)) + (4 : Int32)) + ((8 : Int32) * (Int32.ofNat k_a1))) + ((2 : Int32) * (Int32.ofNat k_a2))) = Int32.ofNat ((((1068 * k_a0) + 4) + (8 * k_a1)) + (2 * k_a2)) from (zN_a (zN_a (zN_a (zN_m rfl rfl) rfl) (zN_m rfl rfl)) (zN_m rfl rfl))]
          refine zW_gh 88 [some (.ref 75), some (.int (Int32.ofNat k_a0)), some (.int (Int32.ofNat k_a1)), some (.int (Int32.ofNat k_a2)), some (.int a3), some (.int a4), some (.int (Int32.ofNat ((((1068 * k_a0) + 4) + (8 * k_a1)) + (2 * k_a2)))), none] [.int (Int32.ofNat ((((1068 * k_a0) + 4) + (8 * k_a1)) + (2 * k_a2))), .ref 76] 3 (fun f => rfl) ?_
          obtain ⟨h4, H⟩ := H
          refine zW_iald rfl (by decide) rfl (by decide) rfl h4 ?_
          refine zW_gh 98 [some (.ref 75), some (.int (Int32.ofNat k_a0)), some (.int (Int32.ofNat k_a1)), some (.int (Int32.ofNat k_a2)), some (.int a3), some (.int a4), some (.int (Int32.ofNat ((((1068 * k_a0) + 4) + (8 * k_a1)) + (2 * k_a2)))), some (.int (m ((((1068 * k_a0) + 4) + (8 * k_a1)) + (2 * k_a2))))] [.int a4, .int a3, .int (Int32.ofNat ((((1068 * k_a0) + 4) + (8 * k_a1)) + (2 * k_a2))), .ref 75] 5 (fun f => rfl) ?_
          obtain ⟨h5, H⟩ := H
          refine zW_cl rfl rfl rfl rfl rfl ((s152 rfl) h5 ?_)
          change zW zm_147 101 [some (.ref 75), some (.int (Int32.ofNat k_a0)), some (.int (Int32.ofNat k_a1)), some (.int (Int32.ofNat k_a2)), some (.int a3), some (.int a4), some (.int (Int32.ofNat ((((1068 * k_a0) + 4) + (8 * k_a1)) + (2 * k_a2)))), some (.int (m ((((1068 * k_a0) + 4) + (8 * k_a1)) + (2 * k_a2))))] [] p _ Q
          refine zW_gh 107 [some (.ref 75), some (.int (Int32.ofNat k_a0)), some (.int (Int32.ofNat k_a1)), some (.int (Int32.ofNat k_a2)), some (.int a3), some (.int a4), some (.int (Int32.ofNat ((((1068 * k_a0) + 4) + (8 * k_a1)) + (2 * k_a2)))), some (.int (m ((((1068 * k_a0) + 4) + (8 * k_a1)) + (2 * k_a2))))] [.int ((1068 : Int32) * (Int32.ofNat k_a0)), .ref 75] 4 (fun f => rfl) ?_
          refine zW_fg (L' := [none, none, none, none, none, none, none, some (.int (m ((((1068 * k_a0) + 4) + (8 * k_a1)) + (2 * k_a2))))]) (zle_n _ (zle_n _ (zle_n _ (zle_n _ (zle_n _ (zle_n _ (zle_n _ (zle_s _ zle_nil)))))))) ?_
          exact zW_cl rfl rfl rfl rfl rfl H
        · have c9 : (zise (m ((1068 * k_a0) + 0)) a3 a4) = false := ((zcB_ne _).symm.trans c)
          replace H := H.2 c9
          refine zW_gh 66 [some (.ref 75), some (.int (Int32.ofNat k_a0)), some (.int (Int32.ofNat k_a1)), some (.int (Int32.ofNat k_a2)), some (.int a3), some (.int a4), none, none] [.int (3 : Int32), .ref 75] 2 (fun f => rfl) ?_
          refine zW_cl rfl rfl rfl rfl rfl (s142 ?_)
          change zW zm_147 69 [some (.ref 75), some (.int (Int32.ofNat k_a0)), some (.int (Int32.ofNat k_a1)), some (.int (Int32.ofNat k_a2)), some (.int a3), some (.int a4), none, none] [.int (0 : Int32)] p _ Q
          exact zW_rh (some (.int (0 : Int32))) 1 (fun f => rfl) H
    · have c9 : (decide (m (1068 * k_a0) = -1)) = true := ((Bool.not_eq_false' _).mp ((zcB_eq _).symm.trans c))
      replace H := H.2 c9
      refine zW_gh 28 [some (.ref 75), some (.int (Int32.ofNat k_a0)), some (.int a1), some (.int a2), some (.int a3), some (.int a4), none, none] [.int (2 : Int32), .ref 75] 2 (fun f => rfl) ?_
      refine zW_cl rfl rfl rfl rfl rfl (s142 ?_)
      change zW zm_147 31 [some (.ref 75), some (.int (Int32.ofNat k_a0)), some (.int a1), some (.int a2), some (.int a3), some (.int a4), none, none] [.int (0 : Int32)] p _ Q
      exact zW_rh (some (.int (0 : Int32))) 1 (fun f => rfl) H
  · have c9 : (zslot a0) = false := ((zcB_ne _).symm.trans c)
    replace H := H.2 c9
    refine zW_gh 14 [some (.ref 75), some (.int a0), some (.int a1), some (.int a2), some (.int a3), some (.int a4), none, none] [.int (1 : Int32), .ref 75] 2 (fun f => rfl) ?_
    refine zW_cl rfl rfl rfl rfl rfl (s142 ?_)
    change zW zm_147 17 [some (.ref 75), some (.int a0), some (.int a1), some (.int a2), some (.int a3), some (.int a4), none, none] [.int (0 : Int32)] p _ Q
    exact zW_rh (some (.int (0 : Int32))) 1 (fun f => rfl) H
theorem b147_110 {K : zKt} {code rf rs pr pn : Int32} {bad : Bool} {J : zJt} {m pa pb pc vf vs : Nat → Int32} {B : zBt} {w : Nat → Int64} {p : Nat × Nat} {Q : zR → zH → Prop} {x7 : Int32} (H : Q (.inl (some (.int x7))) (zh K (code, rf, rs, bad, pr, pn, J) (m, pa, pb, pc, vf, vs, B) w)) : zW zm_147 110 [none, none, none, none, none, none, none, some (.int x7)] [] p (zh K (code, rf, rs, bad, pr, pn, J) (m, pa, pb, pc, vf, vs, B) w) Q := by
  refine zW_gh 112 [none, none, none, none, none, none, none, some (.int x7)] [.int x7] 1 (fun f => rfl) ?_
  exact zW_rh (some (.int x7)) 1 (fun f => rfl) H
theorem b153 {K : zKt} {code rf rs pr pn : Int32} {bad : Bool} {J : zJt} {m pa pb pc vf vs : Nat → Int32} {B : zBt} {w : Nat → Int64} {p : Nat × Nat} {Q : zR → zH → Prop} {a0 a1 : Int32} (H : (((zslot a0) = false → Q (.inl (some (.int (0 : Int32)))) (zh K ((1 : Int32), rf, rs, bad, pr, pn, J) (m, pa, pb, pc, vf, vs, B) w)) ∧ ((zslot a0) = true → ∀ k_a0, k_a0 < 3 → a0 = Int32.ofNat k_a0 → (((zslot a1) = true → ∀ k_a1, k_a1 < 3 → a1 = Int32.ofNat k_a1 → (1068 * k_a0 < 5340 ∧ (((decide (m (1068 * k_a0) = -1)) = false → zT zm_154 [.ref 75, .int ((1068 : Int32) * (Int32.ofNat k_a0)), .int ((1068 : Int32) * (Int32.ofNat k_a1))] p (zh K ((0 : Int32), rf, rs, bad, pr, pn, J) (m, pa, pb, pc, vf, vs, B) w) (zK zm_153 53 [some (.ref 75), none, some (.int (Int32.ofNat k_a1))] [] p Q)) ∧ ((decide (m (1068 * k_a0) = -1)) = true → Q (.inl (some (.int (0 : Int32)))) (zh K ((2 : Int32), rf, rs, bad, pr, pn, J) (m, pa, pb, pc, vf, vs, B) w))))) ∧ ((zslot a1) = false → Q (.inl (some (.int (0 : Int32)))) (zh K ((1 : Int32), rf, rs, bad, pr, pn, J) (m, pa, pb, pc, vf, vs, B) w)))))) : zT zm_153 [.ref 75, .int a0, .int a1] p (zh K (code, rf, rs, bad, pr, pn, J) (m, pa, pb, pc, vf, vs, B) w) Q := by
  change zW zm_153 0 [some (.ref 75), some (.int a0), some (.int a1)] [] p _ Q
  refine zW_gh 2 [some (.ref 75), some (.int a0), some (.int a1)] [.int (0 : Int32), .ref 75] 2 (fun f => rfl) ?_
  refine zW_go (pc' := 5) (L' := [some (.ref 75), some (.int a0), some (.int a1)]) (st' := []) (h' := (va_up (zh K (code, rf, rs, bad, pr, pn, J) (m, pa, pb, pc, vf, vs, B) w) 75 (.inr (7, zfl ((0 : Int32), rf, rs, bad, pr, pn, J))))) 1 (fun f => rfl) ?_
  refine zW_eq zu_75 ?_
  refine zW_gh 6 [some (.ref 75), some (.int a0), some (.int a1)] [.int a0] 1 (fun f => rfl) ?_
  refine zW_cl rfl rfl rfl rfl rfl (s140 ?_)
  change zW zm_153 9 [some (.ref 75), some (.int a0), some (.int a1)] [.int (zbi (zslot a0))] p _ Q
  refine zW_bh (zcmp .eq (zbi (zslot a0)) (0 : Int32)) 19 12 [some (.ref 75), some (.int a0), some (.int a1)] [] 1 (fun f => rfl) (fun c => ?_) (fun c => ?_)
  · have c9 : (zslot a0) = false := ((Bool.not_eq_true' _).mp ((zcB_eq _).symm.trans c))
    replace H := H.1 c9
    refine zW_gh 21 [some (.ref 75), some (.int a0), some (.int a1)] [.int (1 : Int32), .ref 75] 2 (fun f => rfl) ?_
    refine zW_cl rfl rfl rfl rfl rfl (s142 ?_)
    change zW zm_153 24 [some (.ref 75), some (.int a0), some (.int a1)] [.int (0 : Int32)] p _ Q
    exact zW_rh (some (.int (0 : Int32))) 1 (fun f => rfl) H
  · have c9 : (zslot a0) = true := ((Bool.not_eq_false' _).mp ((zcB_eq _).symm.trans c))
    replace H := H.2 c9
    obtain ⟨k_a0, h_k_a0, e_k_a0⟩ := zslot_n c9
    replace H := H k_a0 h_k_a0 e_k_a0
    subst e_k_a0
    refine zW_gh 13 [some (.ref 75), some (.int (Int32.ofNat k_a0)), some (.int a1)] [.int a1] 1 (fun f => rfl) ?_
    refine zW_cl rfl rfl rfl rfl rfl (s140 ?_)
    change zW zm_153 16 [some (.ref 75), some (.int (Int32.ofNat k_a0)), some (.int a1)] [.int (zbi (zslot a1))] p _ Q
    refine zW_bh (zcmp .ne (zbi (zslot a1)) (0 : Int32)) 25 19 [some (.ref 75), some (.int (Int32.ofNat k_a0)), some (.int a1)] [] 1 (fun f => rfl) (fun c => ?_) (fun c => ?_)
    · have c9 : (zslot a1) = true := ((zcB_ne _).symm.trans c)
      replace H := H.1 c9
      obtain ⟨k_a1, h_k_a1, e_k_a1⟩ := zslot_n c9
      replace H := H k_a1 h_k_a1 e_k_a1
      subst e_k_a1
      refine zW_gh 27 [some (.ref 75), some (.int (Int32.ofNat k_a0)), some (.int (Int32.ofNat k_a1))] [.int (Int32.ofNat k_a0), .ref 75] 2 (fun f => rfl) ?_
      obtain ⟨h1, H⟩ := H
      refine zW_cl rfl rfl rfl rfl rfl ((s144 rfl) h1 ?_)
      change zW zm_153 30 [some (.ref 75), some (.int (Int32.ofNat k_a0)), some (.int (Int32.ofNat k_a1))] [.int (zbi (decide (m (1068 * k_a0) = -1)))] p _ Q
      refine zW_bh (zcmp .eq (zbi (decide (m (1068 * k_a0) = -1))) (0 : Int32)) 39 33 [some (.ref 75), some (.int (Int32.ofNat k_a0)), some (.int (Int32.ofNat k_a1))] [] 1 (fun f => rfl) (fun c => ?_) (fun c => ?_)
      · have c9 : (decide (m (1068 * k_a0) = -1)) = false := ((Bool.not_eq_true' _).mp ((zcB_eq _).symm.trans c))
        replace H := H.1 c9
        refine zW_gh 50 [some (.ref 75), some (.int (Int32.ofNat k_a0)), some (.int (Int32.ofNat k_a1))] [.int ((1068 : Int32) * (Int32.ofNat k_a1)), .int ((1068 : Int32) * (Int32.ofNat k_a0)), .ref 75] 7 (fun f => rfl) ?_
        refine zW_fg (L' := [some (.ref 75), none, some (.int (Int32.ofNat k_a1))]) (zle_s _ (zle_n _ (zle_s _ zle_nil))) ?_
        exact zW_cl rfl rfl rfl rfl rfl H
      · have c9 : (decide (m (1068 * k_a0) = -1)) = true := ((Bool.not_eq_false' _).mp ((zcB_eq _).symm.trans c))
        replace H := H.2 c9
        refine zW_gh 35 [some (.ref 75), some (.int (Int32.ofNat k_a0)), some (.int (Int32.ofNat k_a1))] [.int (2 : Int32), .ref 75] 2 (fun f => rfl) ?_
        refine zW_cl rfl rfl rfl rfl rfl (s142 ?_)
        change zW zm_153 38 [some (.ref 75), some (.int (Int32.ofNat k_a0)), some (.int (Int32.ofNat k_a1))] [.int (0 : Int32)] p _ Q
        exact zW_rh (some (.int (0 : Int32))) 1 (fun f => rfl) H
    · have c9 : (zslot a1) = false := ((zcB_ne _).symm.trans c)
      replace H := H.2 c9
      refine zW_gh 21 [some (.ref 75), some (.int (Int32.ofNat k_a0)), some (.int a1)] [.int (1 : Int32), .ref 75] 2 (fun f => rfl) ?_
      refine zW_cl rfl rfl rfl rfl rfl (s142 ?_)
      change zW zm_153 24 [some (.ref 75), some (.int (Int32.ofNat k_a0)), some (.int a1)] [.int (0 : Int32)] p _ Q
      exact zW_rh (some (.int (0 : Int32))) 1 (fun f => rfl) H
theorem b153_53 {K : zKt} {code rf rs pr pn : Int32} {bad : Bool} {J : zJt} {m pa pb pc vf vs : Nat → Int32} {B : zBt} {w : Nat → Int64} {p : Nat × Nat} {Q : zR → zH → Prop} {x2 : Nat} (H : (((1068 * x2) + 3) < 5340 ∧ Q (.inl (some (.int (m ((1068 * x2) + 3))))) (zh K (code, rf, rs, bad, pr, pn, J) (m, pa, pb, pc, vf, vs, B) w))) : zW zm_153 53 [some (.ref 75), none, some (.int (Int32.ofNat x2))] [] p (zh K (code, rf, rs, bad, pr, pn, J) (m, pa, pb, pc, vf, vs, B) w) Q := by
  refine zW_gh 64 [some (.ref 75), none, some (.int (Int32.ofNat x2))] [.int (((1068 : Int32) * (Int32.ofNat x2)) + (3 : Int32)), .ref 76] 7 (fun f => rfl) ?_
  obtain ⟨h1, H⟩ := H
  refine zW_iald rfl (by decide) rfl (by decide) (zN_a (zN_m rfl rfl) rfl) h1 ?_
  exact zW_rh (some (.int (m ((1068 * x2) + 3)))) 1 (fun f => rfl) H
theorem b156 {K : zKt} {code rf rs pr pn : Int32} {bad : Bool} {J : zJt} {m pa pb pc vf vs : Nat → Int32} {B : zBt} {w : Nat → Int64} {p : Nat × Nat} {Q : zR → zH → Prop} {a0 a1 a2 a3 : Nat} (H : ((a0 + 0) < 5340 ∧ zW zm_156 24 [some (.ref 75), some (.int (Int32.ofNat a0)), some (.int (Int32.ofNat a1)), some (.int (Int32.ofNat a2)), some (.int (Int32.ofNat a3)), some (.int (m (a0 + 0))), some (.int (Int32.ofNat ((3208 + (8 * a2)) + (2 * a3)))), some (.int (Int32.ofNat 0)), none, none] [] p (zh K (code, rf, rs, bad, pr, pn, J) (m, pa, pb, pc, vf, vs, B) w) Q)) : zT zm_156 [.ref 75, .int (Int32.ofNat a0), .int (Int32.ofNat a1), .int (Int32.ofNat a2), .int (Int32.ofNat a3)] p (zh K (code, rf, rs, bad, pr, pn, J) (m, pa, pb, pc, vf, vs, B) w) Q := by
  change zW zm_156 0 [some (.ref 75), some (.int (Int32.ofNat a0)), some (.int (Int32.ofNat a1)), some (.int (Int32.ofNat a2)), some (.int (Int32.ofNat a3)), none, none, none, none, none] [] p _ Q
  refine zW_gh 7 [some (.ref 75), some (.int (Int32.ofNat a0)), some (.int (Int32.ofNat a1)), some (.int (Int32.ofNat a2)), some (.int (Int32.ofNat a3)), none, none, none, none, none] [.int ((Int32.ofNat a0) + (0 : Int32)), .ref 76] 5 (fun f => rfl) ?_
  obtain ⟨h1, H⟩ := H
  refine zW_iald rfl (by decide) rfl (by decide) (zN_a rfl rfl) h1 ?_
  refine zW_gh 16 [some (.ref 75), some (.int (Int32.ofNat a0)), some (.int (Int32.ofNat a1)), some (.int (Int32.ofNat a2)), some (.int (Int32.ofNat a3)), some (.int (m (a0 + 0))), none, none, none, none] [.int (Int32.ofNat a3), .int (Int32.ofNat a2), .int (3204 : Int32)] 4 (fun f => rfl) ?_
  refine zW_cl rfl rfl rfl rfl rfl (s151 ?_)
  change zW zm_156 19 [some (.ref 75), some (.int (Int32.ofNat a0)), some (.int (Int32.ofNat a1)), some (.int (Int32.ofNat a2)), some (.int (Int32.ofNat a3)), some (.int (m (a0 + 0))), none, none, none, none] [.int (((3208 : Int32) + ((8 : Int32) * (Int32.ofNat a2))) + ((2 : Int32) * (Int32.ofNat a3)))] p _ Q
  refine zW_gh 21 [some (.ref 75), some (.int (Int32.ofNat a0)), some (.int (Int32.ofNat a1)), some (.int (Int32.ofNat a2)), some (.int (Int32.ofNat a3)), some (.int (m (a0 + 0))), some (.int (((3208 : Int32) + ((8 : Int32) * (Int32.ofNat a2))) + ((2 : Int32) * (Int32.ofNat a3)))), none, none, none] [] 1 (fun f => rfl) ?_
  rw [show (((3208 : Int32) + ((8 : Int32) * (Int32.ofNat a2))) + ((2 : Int32) * (Int32.ofNat a3))) = Int32.ofNat ((3208 + (8 * a2)) + (2 * a3)) from (zN_a (zN_a rfl (zN_m rfl rfl)) (zN_m rfl rfl))]
  refine zW_gh 24 [some (.ref 75), some (.int (Int32.ofNat a0)), some (.int (Int32.ofNat a1)), some (.int (Int32.ofNat a2)), some (.int (Int32.ofNat a3)), some (.int (m (a0 + 0))), some (.int (Int32.ofNat ((3208 + (8 * a2)) + (2 * a3)))), some (.int (0 : Int32)), none, none] [] 2 (fun f => rfl) ?_
  exact H
theorem b156_24 {K : zKt} {code rf rs pr pn : Int32} {bad : Bool} {J : zJt} {m pa pb pc vf vs : Nat → Int32} {B : zBt} {w : Nat → Int64} {p : Nat × Nat} {Q : zR → zH → Prop} {x1 x2 x3 x4 x6 x7 : Nat} {x5 : Int32} (H : ((x1 + 2) < 5340 ∧ (((m (x1 + 2)) ≤ (Int32.ofNat x7) → Q (.inl none) (zh K (code, rf, rs, bad, pr, pn, J) (m, pa, pb, pc, vf, vs, B) w)) ∧ (¬ (m (x1 + 2)) ≤ (Int32.ofNat x7) → ((((x1 + 4) + (8 * x3)) + (2 * x7)) < 5340 ∧ (((((x1 + 4) + (8 * x3)) + (2 * x7)) + 1) < 5340 ∧ ((((x2 + 4) + (8 * x7)) + (2 * x4)) < 5340 ∧ (((((x2 + 4) + (8 * x7)) + (2 * x4)) + 1) < 5340 ∧ zT zm_157 [.ref 75, .int x5, .int (0 : Int32), .int (0 : Int32), .int (m (((x1 + 4) + (8 * x3)) + (2 * x7))), .int (m ((((x1 + 4) + (8 * x3)) + (2 * x7)) + 1)), .int (m (((x2 + 4) + (8 * x7)) + (2 * x4))), .int (m ((((x2 + 4) + (8 * x7)) + (2 * x4)) + 1))] p (zh K (code, rf, rs, bad, pr, pn, J) (m, pa, pb, pc, vf, vs, B) w) (zK zm_156 96 [some (.ref 75), some (.int (Int32.ofNat x1)), some (.int (Int32.ofNat x2)), some (.int (Int32.ofNat x3)), some (.int (Int32.ofNat x4)), some (.int x5), some (.int (Int32.ofNat x6)), some (.int (Int32.ofNat x7)), none, none] [] p Q))))))))) : zW zm_156 24 [some (.ref 75), some (.int (Int32.ofNat x1)), some (.int (Int32.ofNat x2)), some (.int (Int32.ofNat x3)), some (.int (Int32.ofNat x4)), some (.int x5), some (.int (Int32.ofNat x6)), some (.int (Int32.ofNat x7)), none, none] [] p (zh K (code, rf, rs, bad, pr, pn, J) (m, pa, pb, pc, vf, vs, B) w) Q := by
  refine zW_gh 33 [some (.ref 75), some (.int (Int32.ofNat x1)), some (.int (Int32.ofNat x2)), some (.int (Int32.ofNat x3)), some (.int (Int32.ofNat x4)), some (.int x5), some (.int (Int32.ofNat x6)), some (.int (Int32.ofNat x7)), none, none] [.int ((Int32.ofNat x1) + (2 : Int32)), .ref 76, .int (Int32.ofNat x7)] 6 (fun f => rfl) ?_
  obtain ⟨h1, H⟩ := H
  refine zW_iald rfl (by decide) rfl (by decide) (zN_a rfl rfl) h1 ?_
  refine zW_bh (zcmp .ge (Int32.ofNat x7) (m (x1 + 2))) 148 37 [some (.ref 75), some (.int (Int32.ofNat x1)), some (.int (Int32.ofNat x2)), some (.int (Int32.ofNat x3)), some (.int (Int32.ofNat x4)), some (.int x5), some (.int (Int32.ofNat x6)), some (.int (Int32.ofNat x7)), none, none] [] 1 (fun f => rfl) (fun c => ?_) (fun c => ?_)
  · have c9 : (m (x1 + 2)) ≤ (Int32.ofNat x7) := (of_decide_eq_true c)
    replace H := H.1 c9
    exact zW_rh none 1 (fun f => rfl) H
  · have c9 : ¬ (m (x1 + 2)) ≤ (Int32.ofNat x7) := (of_decide_eq_false c)
    replace H := H.2 c9
    refine zW_gh 41 [some (.ref 75), some (.int (Int32.ofNat x1)), some (.int (Int32.ofNat x2)), some (.int (Int32.ofNat x3)), some (.int (Int32.ofNat x4)), some (.int x5), some (.int (Int32.ofNat x6)), some (.int (Int32.ofNat x7)), none, none] [.int (Int32.ofNat x7), .int (Int32.ofNat x3), .int (Int32.ofNat x1)] 3 (fun f => rfl) ?_
    refine zW_cl rfl rfl rfl rfl rfl (s151 ?_)
    change zW zm_156 44 [some (.ref 75), some (.int (Int32.ofNat x1)), some (.int (Int32.ofNat x2)), some (.int (Int32.ofNat x3)), some (.int (Int32.ofNat x4)), some (.int x5), some (.int (Int32.ofNat x6)), some (.int (Int32.ofNat x7)), none, none] [.int ((((Int32.ofNat x1) + (4 : Int32)) + ((8 : Int32) * (Int32.ofNat x3))) + ((2 : Int32) * (Int32.ofNat x7)))] p _ Q
    refine zW_gh 46 [some (.ref 75), some (.int (Int32.ofNat x1)), some (.int (Int32.ofNat x2)), some (.int (Int32.ofNat x3)), some (.int (Int32.ofNat x4)), some (.int x5), some (.int (Int32.ofNat x6)), some (.int (Int32.ofNat x7)), some (.int ((((Int32.ofNat x1) + (4 : Int32)) + ((8 : Int32) * (Int32.ofNat x3))) + ((2 : Int32) * (Int32.ofNat x7)))), none] [] 1 (fun f => rfl) ?_
    rw [show ((((Int32.ofNat x1) + (4 : Int32)) + ((8 : Int32) * (Int32.ofNat x3))) + ((2 : Int32) * (Int32.ofNat x7))) = Int32.ofNat (((x1 + 4) + (8 * x3)) + (2 * x7)) from (zN_a (zN_a (zN_a rfl rfl) (zN_m rfl rfl)) (zN_m rfl rfl))]
    refine zW_gh 51 [some (.ref 75), some (.int (Int32.ofNat x1)), some (.int (Int32.ofNat x2)), some (.int (Int32.ofNat x3)), some (.int (Int32.ofNat x4)), some (.int x5), some (.int (Int32.ofNat x6)), some (.int (Int32.ofNat x7)), some (.int (Int32.ofNat (((x1 + 4) + (8 * x3)) + (2 * x7)))), none] [.int (Int32.ofNat x4), .int (Int32.ofNat x7), .int (Int32.ofNat x2)] 3 (fun f => rfl) ?_
    refine zW_cl rfl rfl rfl rfl rfl (s151 ?_)
    change zW zm_156 54 [some (.ref 75), some (.int (Int32.ofNat x1)), some (.int (Int32.ofNat x2)), some (.int (Int32.ofNat x3)), some (.int (Int32.ofNat x4)), some (.int x5), some (.int (Int32.ofNat x6)), some (.int (Int32.ofNat x7)), some (.int (Int32.ofNat (((x1 + 4) + (8 * x3)) + (2 * x7)))), none] [.int ((((Int32.ofNat x2) + (4 : Int32)) + ((8 : Int32) * (Int32.ofNat x7))) + ((2 : Int32) * (Int32.ofNat x4)))] p _ Q
    refine zW_gh 56 [some (.ref 75), some (.int (Int32.ofNat x1)), some (.int (Int32.ofNat x2)), some (.int (Int32.ofNat x3)), some (.int (Int32.ofNat x4)), some (.int x5), some (.int (Int32.ofNat x6)), some (.int (Int32.ofNat x7)), some (.int (Int32.ofNat (((x1 + 4) + (8 * x3)) + (2 * x7)))), some (.int ((((Int32.ofNat x2) + (4 : Int32)) + ((8 : Int32) * (Int32.ofNat x7))) + ((2 : Int32) * (Int32.ofNat x4))))] [] 1 (fun f => rfl) ?_
    rw [show ((((Int32.ofNat x2) + (4 : Int32)) + ((8 : Int32) * (Int32.ofNat x7))) + ((2 : Int32) * (Int32.ofNat x4))) = Int32.ofNat (((x2 + 4) + (8 * x7)) + (2 * x4)) from (zN_a (zN_a (zN_a rfl rfl) (zN_m rfl rfl)) (zN_m rfl rfl))]
    refine zW_gh 67 [some (.ref 75), some (.int (Int32.ofNat x1)), some (.int (Int32.ofNat x2)), some (.int (Int32.ofNat x3)), some (.int (Int32.ofNat x4)), some (.int x5), some (.int (Int32.ofNat x6)), some (.int (Int32.ofNat x7)), some (.int (Int32.ofNat (((x1 + 4) + (8 * x3)) + (2 * x7)))), some (.int (Int32.ofNat (((x2 + 4) + (8 * x7)) + (2 * x4))))] [.int (Int32.ofNat (((x1 + 4) + (8 * x3)) + (2 * x7))), .ref 76, .int (0 : Int32), .int (0 : Int32), .int x5, .ref 75] 7 (fun f => rfl) ?_
    obtain ⟨h2, H⟩ := H
    refine zW_iald rfl (by decide) rfl (by decide) rfl h2 ?_
    refine zW_gh 76 [some (.ref 75), some (.int (Int32.ofNat x1)), some (.int (Int32.ofNat x2)), some (.int (Int32.ofNat x3)), some (.int (Int32.ofNat x4)), some (.int x5), some (.int (Int32.ofNat x6)), some (.int (Int32.ofNat x7)), some (.int (Int32.ofNat (((x1 + 4) + (8 * x3)) + (2 * x7)))), some (.int (Int32.ofNat (((x2 + 4) + (8 * x7)) + (2 * x4))))] [.int ((Int32.ofNat (((x1 + 4) + (8 * x3)) + (2 * x7))) + (1 : Int32)), .ref 76, .int (m (((x1 + 4) + (8 * x3)) + (2 * x7))), .int (0 : Int32), .int (0 : Int32), .int x5, .ref 75] 5 (fun f => rfl) ?_
    obtain ⟨h3, H⟩ := H
    refine zW_iald rfl (by decide) rfl (by decide) (zN_a rfl rfl) h3 ?_
    refine zW_gh 83 [some (.ref 75), some (.int (Int32.ofNat x1)), some (.int (Int32.ofNat x2)), some (.int (Int32.ofNat x3)), some (.int (Int32.ofNat x4)), some (.int x5), some (.int (Int32.ofNat x6)), some (.int (Int32.ofNat x7)), some (.int (Int32.ofNat (((x1 + 4) + (8 * x3)) + (2 * x7)))), some (.int (Int32.ofNat (((x2 + 4) + (8 * x7)) + (2 * x4))))] [.int (Int32.ofNat (((x2 + 4) + (8 * x7)) + (2 * x4))), .ref 76, .int (m ((((x1 + 4) + (8 * x3)) + (2 * x7)) + 1)), .int (m (((x1 + 4) + (8 * x3)) + (2 * x7))), .int (0 : Int32), .int (0 : Int32), .int x5, .ref 75] 3 (fun f => rfl) ?_
    obtain ⟨h4, H⟩ := H
    refine zW_iald rfl (by decide) rfl (by decide) rfl h4 ?_
    refine zW_gh 92 [some (.ref 75), some (.int (Int32.ofNat x1)), some (.int (Int32.ofNat x2)), some (.int (Int32.ofNat x3)), some (.int (Int32.ofNat x4)), some (.int x5), some (.int (Int32.ofNat x6)), some (.int (Int32.ofNat x7)), some (.int (Int32.ofNat (((x1 + 4) + (8 * x3)) + (2 * x7)))), some (.int (Int32.ofNat (((x2 + 4) + (8 * x7)) + (2 * x4))))] [.int ((Int32.ofNat (((x2 + 4) + (8 * x7)) + (2 * x4))) + (1 : Int32)), .ref 76, .int (m (((x2 + 4) + (8 * x7)) + (2 * x4))), .int (m ((((x1 + 4) + (8 * x3)) + (2 * x7)) + 1)), .int (m (((x1 + 4) + (8 * x3)) + (2 * x7))), .int (0 : Int32), .int (0 : Int32), .int x5, .ref 75] 5 (fun f => rfl) ?_
    obtain ⟨h5, H⟩ := H
    refine zW_iald rfl (by decide) rfl (by decide) (zN_a rfl rfl) h5 ?_
    refine zW_fg (L' := [some (.ref 75), some (.int (Int32.ofNat x1)), some (.int (Int32.ofNat x2)), some (.int (Int32.ofNat x3)), some (.int (Int32.ofNat x4)), some (.int x5), some (.int (Int32.ofNat x6)), some (.int (Int32.ofNat x7)), none, none]) (zle_s _ (zle_s _ (zle_s _ (zle_s _ (zle_s _ (zle_s _ (zle_s _ (zle_s _ (zle_n _ (zle_n _ zle_nil)))))))))) ?_
    exact zW_cl rfl rfl rfl rfl rfl H
theorem b156_96 {K : zKt} {code rf rs pr pn : Int32} {bad : Bool} {J : zJt} {m pa pb pc vf vs : Nat → Int32} {B : zBt} {w : Nat → Int64} {p : Nat × Nat} {Q : zR → zH → Prop} {x1 x2 x3 x4 x6 x7 : Nat} {x5 : Int32} (H : (x6 < 5340 ∧ ((x6 + 1) < 5340 ∧ zT zm_157 [.ref 75, .int x5, .int (m x6), .int (m (x6 + 1)), .int (1 : Int32), .int (0 : Int32), .int rf, .int rs] p (zh K (code, rf, rs, bad, pr, pn, J) (m, pa, pb, pc, vf, vs, B) w) (zK zm_156 128 [some (.ref 75), some (.int (Int32.ofNat x1)), some (.int (Int32.ofNat x2)), some (.int (Int32.ofNat x3)), some (.int (Int32.ofNat x4)), some (.int x5), some (.int (Int32.ofNat x6)), some (.int (Int32.ofNat x7)), none, none] [] p Q)))) : zW zm_156 96 [some (.ref 75), some (.int (Int32.ofNat x1)), some (.int (Int32.ofNat x2)), some (.int (Int32.ofNat x3)), some (.int (Int32.ofNat x4)), some (.int x5), some (.int (Int32.ofNat x6)), some (.int (Int32.ofNat x7)), none, none] [] p (zh K (code, rf, rs, bad, pr, pn, J) (m, pa, pb, pc, vf, vs, B) w) Q := by
  refine zW_gh 105 [some (.ref 75), some (.int (Int32.ofNat x1)), some (.int (Int32.ofNat x2)), some (.int (Int32.ofNat x3)), some (.int (Int32.ofNat x4)), some (.int x5), some (.int (Int32.ofNat x6)), some (.int (Int32.ofNat x7)), none, none] [.int (Int32.ofNat x6), .ref 76, .int x5, .ref 75] 5 (fun f => rfl) ?_
  obtain ⟨h1, H⟩ := H
  refine zW_iald rfl (by decide) rfl (by decide) rfl h1 ?_
  refine zW_gh 114 [some (.ref 75), some (.int (Int32.ofNat x1)), some (.int (Int32.ofNat x2)), some (.int (Int32.ofNat x3)), some (.int (Int32.ofNat x4)), some (.int x5), some (.int (Int32.ofNat x6)), some (.int (Int32.ofNat x7)), none, none] [.int ((Int32.ofNat x6) + (1 : Int32)), .ref 76, .int (m x6), .int x5, .ref 75] 5 (fun f => rfl) ?_
  obtain ⟨h2, H⟩ := H
  refine zW_iald rfl (by decide) rfl (by decide) (zN_a rfl rfl) h2 ?_
  refine zW_gh 125 [some (.ref 75), some (.int (Int32.ofNat x1)), some (.int (Int32.ofNat x2)), some (.int (Int32.ofNat x3)), some (.int (Int32.ofNat x4)), some (.int x5), some (.int (Int32.ofNat x6)), some (.int (Int32.ofNat x7)), none, none] [.int rs, .int rf, .int (0 : Int32), .int (1 : Int32), .int (m (x6 + 1)), .int (m x6), .int x5, .ref 75] 6 (fun f => rfl) ?_
  exact zW_cl rfl rfl rfl rfl rfl H
theorem b156_128 {K : zKt} {code rf rs pr pn : Int32} {bad : Bool} {J : zJt} {m pa pb pc vf vs : Nat → Int32} {B : zBt} {w : Nat → Int64} {p : Nat × Nat} {Q : zR → zH → Prop} {x1 x2 x3 x4 x6 x7 : Nat} {x5 : Int32} (H : (x6 + 1 < 5340 ∧ zW zm_156 24 [some (.ref 75), some (.int (Int32.ofNat x1)), some (.int (Int32.ofNat x2)), some (.int (Int32.ofNat x3)), some (.int (Int32.ofNat x4)), some (.int x5), some (.int (Int32.ofNat x6)), some (.int (Int32.ofNat (x7 + 1))), none, none] [] p (zh K (code, rf, rs, bad, pr, pn, J) ((va_up (va_up m x6 rf) (x6 + 1) rs), pa, pb, pc, vf, vs, B) w) Q)) : zW zm_156 128 [some (.ref 75), some (.int (Int32.ofNat x1)), some (.int (Int32.ofNat x2)), some (.int (Int32.ofNat x3)), some (.int (Int32.ofNat x4)), some (.int x5), some (.int (Int32.ofNat x6)), some (.int (Int32.ofNat x7)), none, none] [] p (zh K (code, rf, rs, bad, pr, pn, J) (m, pa, pb, pc, vf, vs, B) w) Q := by
  refine zW_gh 139 [some (.ref 75), some (.int (Int32.ofNat x1)), some (.int (Int32.ofNat x2)), some (.int (Int32.ofNat x3)), some (.int (Int32.ofNat x4)), some (.int x5), some (.int (Int32.ofNat x6)), some (.int (Int32.ofNat x7)), none, none] [.int rs, .int rf, .int (Int32.ofNat x6), .ref 75] 6 (fun f => rfl) ?_
  obtain ⟨h1, H⟩ := H
  refine zW_cl rfl rfl rfl rfl rfl ((s152 rfl) h1 ?_)
  change zW zm_156 142 [some (.ref 75), some (.int (Int32.ofNat x1)), some (.int (Int32.ofNat x2)), some (.int (Int32.ofNat x3)), some (.int (Int32.ofNat x4)), some (.int x5), some (.int (Int32.ofNat x6)), some (.int (Int32.ofNat x7)), none, none] [] p _ Q
  refine zW_inc [some (.ref 75), some (.int (Int32.ofNat x1)), some (.int (Int32.ofNat x2)), some (.int (Int32.ofNat x3)), some (.int (Int32.ofNat x4)), some (.int x5), some (.int (Int32.ofNat x6)), some (.int ((Int32.ofNat x7) + (1 : Int32))), none, none] rfl rfl rfl ?_
  rw [show ((Int32.ofNat x7) + (1 : Int32)) = Int32.ofNat (x7 + 1) from (zN_a rfl rfl)]
  refine zW_gh 24 [some (.ref 75), some (.int (Int32.ofNat x1)), some (.int (Int32.ofNat x2)), some (.int (Int32.ofNat x3)), some (.int (Int32.ofNat x4)), some (.int x5), some (.int (Int32.ofNat x6)), some (.int (Int32.ofNat (x7 + 1))), none, none] [] 1 (fun f => rfl) ?_
  exact H
set_option maxRecDepth 20000 in
theorem b155 {K : zKt} {code rf rs pr pn : Int32} {bad : Bool} {J : zJt} {m pa pb pc vf vs : Nat → Int32} {B : zBt} {w : Nat → Int64} {p : Nat × Nat} {Q : zR → zH → Prop} {a0 a1 a2 : Int32} (H : (((zslot a0) = false → Q (.inl (some (.int (0 : Int32)))) (zh K ((1 : Int32), rf, rs, bad, pr, pn, J) (m, pa, pb, pc, vf, vs, B) w)) ∧ ((zslot a0) = true → ∀ k_a0, k_a0 < 3 → a0 = Int32.ofNat k_a0 → (((zslot a1) = false → Q (.inl (some (.int (0 : Int32)))) (zh K ((1 : Int32), rf, rs, bad, pr, pn, J) (m, pa, pb, pc, vf, vs, B) w)) ∧ ((zslot a1) = true → ∀ k_a1, k_a1 < 3 → a1 = Int32.ofNat k_a1 → (((zslot a2) = true → ∀ k_a2, k_a2 < 3 → a2 = Int32.ofNat k_a2 → (1068 * k_a0 < 5340 ∧ (((decide (m (1068 * k_a0) = -1)) = true → Q (.inl (some (.int (0 : Int32)))) (zh K ((2 : Int32), rf, rs, bad, pr, pn, J) (m, pa, pb, pc, vf, vs, B) w)) ∧ ((decide (m (1068 * k_a0) = -1)) = false → (1068 * k_a1 < 5340 ∧ (((decide (m (1068 * k_a1) = -1)) = true → Q (.inl (some (.int (0 : Int32)))) (zh K ((2 : Int32), rf, rs, bad, pr, pn, J) (m, pa, pb, pc, vf, vs, B) w)) ∧ ((decide (m (1068 * k_a1) = -1)) = false → (((1068 * k_a0) + 0) < 5340 ∧ (((1068 * k_a1) + 0) < 5340 ∧ ((¬ (m ((1068 * k_a0) + 0)) = (m ((1068 * k_a1) + 0)) → Q (.inl (some (.int (0 : Int32)))) (zh K ((2 : Int32), rf, rs, bad, pr, pn, J) (m, pa, pb, pc, vf, vs, B) w)) ∧ ((m ((1068 * k_a0) + 0)) = (m ((1068 * k_a1) + 0)) → (((1068 * k_a0) + 2) < 5340 ∧ (((1068 * k_a1) + 1) < 5340 ∧ (((m ((1068 * k_a0) + 2)) = (m ((1068 * k_a1) + 1)) → (((1068 * k_a0) + 1) < 5340 ∧ (((1068 * k_a1) + 2) < 5340 ∧ zT zm_145 [.ref 75, .int (3204 : Int32), .int (m ((1068 * k_a0) + 0)), .int (m ((1068 * k_a0) + 1)), .int (m ((1068 * k_a1) + 2))] p (zh K ((0 : Int32), rf, rs, false, pr, pn, J) (m, pa, pb, pc, vf, vs, B) w) (zK zm_155 149 [some (.ref 75), none, none, some (.int (Int32.ofNat k_a2)), some (.int (Int32.ofNat (1068 * k_a0))), some (.int (Int32.ofNat (1068 * k_a1))), none, none] [] p Q)))) ∧ (¬ (m ((1068 * k_a0) + 2)) = (m ((1068 * k_a1) + 1)) → Q (.inl (some (.int (0 : Int32)))) (zh K ((2 : Int32), rf, rs, bad, pr, pn, J) (m, pa, pb, pc, vf, vs, B) w)))))))))))))))) ∧ ((zslot a2) = false → Q (.inl (some (.int (0 : Int32)))) (zh K ((1 : Int32), rf, rs, bad, pr, pn, J) (m, pa, pb, pc, vf, vs, B) w)))))))) : zT zm_155 [.ref 75, .int a0, .int a1, .int a2] p (zh K (code, rf, rs, bad, pr, pn, J) (m, pa, pb, pc, vf, vs, B) w) Q := by
  change zW zm_155 0 [some (.ref 75), some (.int a0), some (.int a1), some (.int a2), none, none, none, none] [] p _ Q
  refine zW_gh 2 [some (.ref 75), some (.int a0), some (.int a1), some (.int a2), none, none, none, none] [.int (0 : Int32), .ref 75] 2 (fun f => rfl) ?_
  refine zW_go (pc' := 5) (L' := [some (.ref 75), some (.int a0), some (.int a1), some (.int a2), none, none, none, none]) (st' := []) (h' := (va_up (zh K (code, rf, rs, bad, pr, pn, J) (m, pa, pb, pc, vf, vs, B) w) 75 (.inr (7, zfl ((0 : Int32), rf, rs, bad, pr, pn, J))))) 1 (fun f => rfl) ?_
  refine zW_eq zu_75 ?_
  refine zW_gh 6 [some (.ref 75), some (.int a0), some (.int a1), some (.int a2), none, none, none, none] [.int a0] 1 (fun f => rfl) ?_
  refine zW_cl rfl rfl rfl rfl rfl (s140 ?_)
  change zW zm_155 9 [some (.ref 75), some (.int a0), some (.int a1), some (.int a2), none, none, none, none] [.int (zbi (zslot a0))] p _ Q
  refine zW_bh (zcmp .eq (zbi (zslot a0)) (0 : Int32)) 26 12 [some (.ref 75), some (.int a0), some (.int a1), some (.int a2), none, none, none, none] [] 1 (fun f => rfl) (fun c => ?_) (fun c => ?_)
  · have c9 : (zslot a0) = false := ((Bool.not_eq_true' _).mp ((zcB_eq _).symm.trans c))
    replace H := H.1 c9
    refine zW_gh 28 [some (.ref 75), some (.int a0), some (.int a1), some (.int a2), none, none, none, none] [.int (1 : Int32), .ref 75] 2 (fun f => rfl) ?_
    refine zW_cl rfl rfl rfl rfl rfl (s142 ?_)
    change zW zm_155 31 [some (.ref 75), some (.int a0), some (.int a1), some (.int a2), none, none, none, none] [.int (0 : Int32)] p _ Q
    exact zW_rh (some (.int (0 : Int32))) 1 (fun f => rfl) H
  · have c9 : (zslot a0) = true := ((Bool.not_eq_false' _).mp ((zcB_eq _).symm.trans c))
    replace H := H.2 c9
    obtain ⟨k_a0, h_k_a0, e_k_a0⟩ := zslot_n c9
    replace H := H k_a0 h_k_a0 e_k_a0
    subst e_k_a0
    refine zW_gh 13 [some (.ref 75), some (.int (Int32.ofNat k_a0)), some (.int a1), some (.int a2), none, none, none, none] [.int a1] 1 (fun f => rfl) ?_
    refine zW_cl rfl rfl rfl rfl rfl (s140 ?_)
    change zW zm_155 16 [some (.ref 75), some (.int (Int32.ofNat k_a0)), some (.int a1), some (.int a2), none, none, none, none] [.int (zbi (zslot a1))] p _ Q
    refine zW_bh (zcmp .eq (zbi (zslot a1)) (0 : Int32)) 26 19 [some (.ref 75), some (.int (Int32.ofNat k_a0)), some (.int a1), some (.int a2), none, none, none, none] [] 1 (fun f => rfl) (fun c => ?_) (fun c => ?_)
    · have c9 : (zslot a1) = false := ((Bool.not_eq_true' _).mp ((zcB_eq _).symm.trans c))
      replace H := H.1 c9
      refine zW_gh 28 [some (.ref 75), some (.int (Int32.ofNat k_a0)), some (.int a1), some (.int a2), none, none, none, none] [.int (1 : Int32), .ref 75] 2 (fun f => rfl) ?_
      refine zW_cl rfl rfl rfl rfl rfl (s142 ?_)
      change zW zm_155 31 [some (.ref 75), some (.int (Int32.ofNat k_a0)), some (.int a1), some (.int a2), none, none, none, none] [.int (0 : Int32)] p _ Q
      exact zW_rh (some (.int (0 : Int32))) 1 (fun f => rfl) H
    · have c9 : (zslot a1) = true := ((Bool.not_eq_false' _).mp ((zcB_eq _).symm.trans c))
      replace H := H.2 c9
      obtain ⟨k_a1, h_k_a1, e_k_a1⟩ := zslot_n c9
      replace H := H k_a1 h_k_a1 e_k_a1
      subst e_k_a1
      refine zW_gh 20 [some (.ref 75), some (.int (Int32.ofNat k_a0)), some (.int (Int32.ofNat k_a1)), some (.int a2), none, none, none, none] [.int a2] 1 (fun f => rfl) ?_
      refine zW_cl rfl rfl rfl rfl rfl (s140 ?_)
      change zW zm_155 23 [some (.ref 75), some (.int (Int32.ofNat k_a0)), some (.int (Int32.ofNat k_a1)), some (.int a2), none, none, none, none] [.int (zbi (zslot a2))] p _ Q
      refine zW_bh (zcmp .ne (zbi (zslot a2)) (0 : Int32)) 32 26 [some (.ref 75), some (.int (Int32.ofNat k_a0)), some (.int (Int32.ofNat k_a1)), some (.int a2), none, none, none, none] [] 1 (fun f => rfl) (fun c => ?_) (fun c => ?_)
      · have c9 : (zslot a2) = true := ((zcB_ne _).symm.trans c)
        replace H := H.1 c9
        obtain ⟨k_a2, h_k_a2, e_k_a2⟩ := zslot_n c9
        replace H := H k_a2 h_k_a2 e_k_a2
        subst e_k_a2
        refine zW_gh 39 [some (.ref 75), some (.int (Int32.ofNat k_a0)), some (.int (Int32.ofNat k_a1)), some (.int (Int32.ofNat k_a2)), some (.int ((1068 : Int32) * (Int32.ofNat k_a0))), none, none, none] [] 4 (fun f => rfl) ?_
        rw [show ((1068 : Int32) * (Int32.ofNat k_a0)) = Int32.ofNat (1068 * k_a0) from (zN_m rfl rfl)]
        refine zW_gh 46 [some (.ref 75), some (.int (Int32.ofNat k_a0)), some (.int (Int32.ofNat k_a1)), some (.int (Int32.ofNat k_a2)), some (.int (Int32.ofNat (1068 * k_a0))), some (.int ((1068 : Int32) * (Int32.ofNat k_a1))), none, none] [] 4 (fun f => rfl) ?_
        rw [show ((1068 : Int32) * (Int32.ofNat k_a1)) = Int32.ofNat (1068 * k_a1) from (zN_m rfl rfl)]
        refine zW_gh 48 [some (.ref 75), some (.int (Int32.ofNat k_a0)), some (.int (Int32.ofNat k_a1)), some (.int (Int32.ofNat k_a2)), some (.int (Int32.ofNat (1068 * k_a0))), some (.int (Int32.ofNat (1068 * k_a1))), none, none] [.int (Int32.ofNat k_a0), .ref 75] 2 (fun f => rfl) ?_
        obtain ⟨h1, H⟩ := H
        refine zW_cl rfl rfl rfl rfl rfl ((s144 rfl) h1 ?_)
        change zW zm_155 51 [some (.ref 75), some (.int (Int32.ofNat k_a0)), some (.int (Int32.ofNat k_a1)), some (.int (Int32.ofNat k_a2)), some (.int (Int32.ofNat (1068 * k_a0))), some (.int (Int32.ofNat (1068 * k_a1))), none, none] [.int (zbi (decide (m (1068 * k_a0) = -1)))] p _ Q
        refine zW_bh (zcmp .ne (zbi (decide (m (1068 * k_a0) = -1))) (0 : Int32)) 104 54 [some (.ref 75), some (.int (Int32.ofNat k_a0)), some (.int (Int32.ofNat k_a1)), some (.int (Int32.ofNat k_a2)), some (.int (Int32.ofNat (1068 * k_a0))), some (.int (Int32.ofNat (1068 * k_a1))), none, none] [] 1 (fun f => rfl) (fun c => ?_) (fun c => ?_)
        · have c9 : (decide (m (1068 * k_a0) = -1)) = true := ((zcB_ne _).symm.trans c)
          replace H := H.1 c9
          refine zW_gh 106 [some (.ref 75), some (.int (Int32.ofNat k_a0)), some (.int (Int32.ofNat k_a1)), some (.int (Int32.ofNat k_a2)), some (.int (Int32.ofNat (1068 * k_a0))), some (.int (Int32.ofNat (1068 * k_a1))), none, none] [.int (2 : Int32), .ref 75] 2 (fun f => rfl) ?_
          refine zW_cl rfl rfl rfl rfl rfl (s142 ?_)
          change zW zm_155 109 [some (.ref 75), some (.int (Int32.ofNat k_a0)), some (.int (Int32.ofNat k_a1)), some (.int (Int32.ofNat k_a2)), some (.int (Int32.ofNat (1068 * k_a0))), some (.int (Int32.ofNat (1068 * k_a1))), none, none] [.int (0 : Int32)] p _ Q
          exact zW_rh (some (.int (0 : Int32))) 1 (fun f => rfl) H
        · have c9 : (decide (m (1068 * k_a0) = -1)) = false := ((zcB_ne _).symm.trans c)
          replace H := H.2 c9
          refine zW_gh 56 [some (.ref 75), some (.int (Int32.ofNat k_a0)), some (.int (Int32.ofNat k_a1)), some (.int (Int32.ofNat k_a2)), some (.int (Int32.ofNat (1068 * k_a0))), some (.int (Int32.ofNat (1068 * k_a1))), none, none] [.int (Int32.ofNat k_a1), .ref 75] 2 (fun f => rfl) ?_
          obtain ⟨h2, H⟩ := H
          refine zW_cl rfl rfl rfl rfl rfl ((s144 rfl) h2 ?_)
          change zW zm_155 59 [some (.ref 75), some (.int (Int32.ofNat k_a0)), some (.int (Int32.ofNat k_a1)), some (.int (Int32.ofNat k_a2)), some (.int (Int32.ofNat (1068 * k_a0))), some (.int (Int32.ofNat (1068 * k_a1))), none, none] [.int (zbi (decide (m (1068 * k_a1) = -1)))] p _ Q
          refine zW_bh (zcmp .ne (zbi (decide (m (1068 * k_a1) = -1))) (0 : Int32)) 104 62 [some (.ref 75), some (.int (Int32.ofNat k_a0)), some (.int (Int32.ofNat k_a1)), some (.int (Int32.ofNat k_a2)), some (.int (Int32.ofNat (1068 * k_a0))), some (.int (Int32.ofNat (1068 * k_a1))), none, none] [] 1 (fun f => rfl) (fun c => ?_) (fun c => ?_)
          · have c9 : (decide (m (1068 * k_a1) = -1)) = true := ((zcB_ne _).symm.trans c)
            replace H := H.1 c9
            refine zW_gh 106 [some (.ref 75), some (.int (Int32.ofNat k_a0)), some (.int (Int32.ofNat k_a1)), some (.int (Int32.ofNat k_a2)), some (.int (Int32.ofNat (1068 * k_a0))), some (.int (Int32.ofNat (1068 * k_a1))), none, none] [.int (2 : Int32), .ref 75] 2 (fun f => rfl) ?_
            refine zW_cl rfl rfl rfl rfl rfl (s142 ?_)
            change zW zm_155 109 [some (.ref 75), some (.int (Int32.ofNat k_a0)), some (.int (Int32.ofNat k_a1)), some (.int (Int32.ofNat k_a2)), some (.int (Int32.ofNat (1068 * k_a0))), some (.int (Int32.ofNat (1068 * k_a1))), none, none] [.int (0 : Int32)] p _ Q
            exact zW_rh (some (.int (0 : Int32))) 1 (fun f => rfl) H
          · have c9 : (decide (m (1068 * k_a1) = -1)) = false := ((zcB_ne _).symm.trans c)
            replace H := H.2 c9
            refine zW_gh 70 [some (.ref 75), some (.int (Int32.ofNat k_a0)), some (.int (Int32.ofNat k_a1)), some (.int (Int32.ofNat k_a2)), some (.int (Int32.ofNat (1068 * k_a0))), some (.int (Int32.ofNat (1068 * k_a1))), none, none] [.int ((Int32.ofNat (1068 * k_a0)) + (0 : Int32)), .ref 76] 5 (fun f => rfl) ?_
            obtain ⟨h3, H⟩ := H
            refine zW_iald rfl (by decide) rfl (by decide) (zN_a rfl rfl) h3 ?_
            refine zW_gh 79 [some (.ref 75), some (.int (Int32.ofNat k_a0)), some (.int (Int32.ofNat k_a1)), some (.int (Int32.ofNat k_a2)), some (.int (Int32.ofNat (1068 * k_a0))), some (.int (Int32.ofNat (1068 * k_a1))), none, none] [.int ((Int32.ofNat (1068 * k_a1)) + (0 : Int32)), .ref 76, .int (m ((1068 * k_a0) + 0))] 5 (fun f => rfl) ?_
            obtain ⟨h4, H⟩ := H
            refine zW_iald rfl (by decide) rfl (by decide) (zN_a rfl rfl) h4 ?_
            refine zW_bh (zcmp .ne (m ((1068 * k_a0) + 0)) (m ((1068 * k_a1) + 0))) 104 83 [some (.ref 75), some (.int (Int32.ofNat k_a0)), some (.int (Int32.ofNat k_a1)), some (.int (Int32.ofNat k_a2)), some (.int (Int32.ofNat (1068 * k_a0))), some (.int (Int32.ofNat (1068 * k_a1))), none, none] [] 1 (fun f => rfl) (fun c => ?_) (fun c => ?_)
            · have c9 : ¬ (m ((1068 * k_a0) + 0)) = (m ((1068 * k_a1) + 0)) := (by simpa [zcmp] using c)
              replace H := H.1 c9
              refine zW_gh 106 [some (.ref 75), some (.int (Int32.ofNat k_a0)), some (.int (Int32.ofNat k_a1)), some (.int (Int32.ofNat k_a2)), some (.int (Int32.ofNat (1068 * k_a0))), some (.int (Int32.ofNat (1068 * k_a1))), none, none] [.int (2 : Int32), .ref 75] 2 (fun f => rfl) ?_
              refine zW_cl rfl rfl rfl rfl rfl (s142 ?_)
              change zW zm_155 109 [some (.ref 75), some (.int (Int32.ofNat k_a0)), some (.int (Int32.ofNat k_a1)), some (.int (Int32.ofNat k_a2)), some (.int (Int32.ofNat (1068 * k_a0))), some (.int (Int32.ofNat (1068 * k_a1))), none, none] [.int (0 : Int32)] p _ Q
              exact zW_rh (some (.int (0 : Int32))) 1 (fun f => rfl) H
            · have c9 : (m ((1068 * k_a0) + 0)) = (m ((1068 * k_a1) + 0)) := (by simpa [zcmp] using c)
              replace H := H.2 c9
              refine zW_gh 91 [some (.ref 75), some (.int (Int32.ofNat k_a0)), some (.int (Int32.ofNat k_a1)), some (.int (Int32.ofNat k_a2)), some (.int (Int32.ofNat (1068 * k_a0))), some (.int (Int32.ofNat (1068 * k_a1))), none, none] [.int ((Int32.ofNat (1068 * k_a0)) + (2 : Int32)), .ref 76] 5 (fun f => rfl) ?_
              obtain ⟨h5, H⟩ := H
              refine zW_iald rfl (by decide) rfl (by decide) (zN_a rfl rfl) h5 ?_
              refine zW_gh 100 [some (.ref 75), some (.int (Int32.ofNat k_a0)), some (.int (Int32.ofNat k_a1)), some (.int (Int32.ofNat k_a2)), some (.int (Int32.ofNat (1068 * k_a0))), some (.int (Int32.ofNat (1068 * k_a1))), none, none] [.int ((Int32.ofNat (1068 * k_a1)) + (1 : Int32)), .ref 76, .int (m ((1068 * k_a0) + 2))] 5 (fun f => rfl) ?_
              obtain ⟨h6, H⟩ := H
              refine zW_iald rfl (by decide) rfl (by decide) (zN_a rfl rfl) h6 ?_
              refine zW_bh (zcmp .eq (m ((1068 * k_a0) + 2)) (m ((1068 * k_a1) + 1))) 110 104 [some (.ref 75), some (.int (Int32.ofNat k_a0)), some (.int (Int32.ofNat k_a1)), some (.int (Int32.ofNat k_a2)), some (.int (Int32.ofNat (1068 * k_a0))), some (.int (Int32.ofNat (1068 * k_a1))), none, none] [] 1 (fun f => rfl) (fun c => ?_) (fun c => ?_)
              · have c9 : (m ((1068 * k_a0) + 2)) = (m ((1068 * k_a1) + 1)) := (of_decide_eq_true c)
                replace H := H.1 c9
                refine zW_gh 112 [some (.ref 75), some (.int (Int32.ofNat k_a0)), some (.int (Int32.ofNat k_a1)), some (.int (Int32.ofNat k_a2)), some (.int (Int32.ofNat (1068 * k_a0))), some (.int (Int32.ofNat (1068 * k_a1))), none, none] [.int (0 : Int32), .ref 75] 2 (fun f => rfl) ?_
                refine zW_go (pc' := 115) (L' := [some (.ref 75), some (.int (Int32.ofNat k_a0)), some (.int (Int32.ofNat k_a1)), some (.int (Int32.ofNat k_a2)), some (.int (Int32.ofNat (1068 * k_a0))), some (.int (Int32.ofNat (1068 * k_a1))), none, none]) (st' := []) (h' := (va_up (zh K ((0 : Int32), rf, rs, bad, pr, pn, J) (m, pa, pb, pc, vf, vs, B) w) 75 (.inr (7, zfl ((0 : Int32), rf, rs, false, pr, pn, J))))) 1 (fun f => rfl) ?_
                refine zW_eq zu_75 ?_
                refine zW_gh 127 [some (.ref 75), some (.int (Int32.ofNat k_a0)), some (.int (Int32.ofNat k_a1)), some (.int (Int32.ofNat k_a2)), some (.int (Int32.ofNat (1068 * k_a0))), some (.int (Int32.ofNat (1068 * k_a1))), none, none] [.int ((Int32.ofNat (1068 * k_a0)) + (0 : Int32)), .ref 76, .int (3204 : Int32), .ref 75] 7 (fun f => rfl) ?_
                refine zW_iald rfl (by decide) rfl (by decide) (zN_a rfl rfl) h3 ?_
                refine zW_gh 136 [some (.ref 75), some (.int (Int32.ofNat k_a0)), some (.int (Int32.ofNat k_a1)), some (.int (Int32.ofNat k_a2)), some (.int (Int32.ofNat (1068 * k_a0))), some (.int (Int32.ofNat (1068 * k_a1))), none, none] [.int ((Int32.ofNat (1068 * k_a0)) + (1 : Int32)), .ref 76, .int (m ((1068 * k_a0) + 0)), .int (3204 : Int32), .ref 75] 5 (fun f => rfl) ?_
                obtain ⟨h8, H⟩ := H
                refine zW_iald rfl (by decide) rfl (by decide) (zN_a rfl rfl) h8 ?_
                refine zW_gh 145 [some (.ref 75), some (.int (Int32.ofNat k_a0)), some (.int (Int32.ofNat k_a1)), some (.int (Int32.ofNat k_a2)), some (.int (Int32.ofNat (1068 * k_a0))), some (.int (Int32.ofNat (1068 * k_a1))), none, none] [.int ((Int32.ofNat (1068 * k_a1)) + (2 : Int32)), .ref 76, .int (m ((1068 * k_a0) + 1)), .int (m ((1068 * k_a0) + 0)), .int (3204 : Int32), .ref 75] 5 (fun f => rfl) ?_
                obtain ⟨h9, H⟩ := H
                refine zW_iald rfl (by decide) rfl (by decide) (zN_a rfl rfl) h9 ?_
                refine zW_fg (L' := [some (.ref 75), none, none, some (.int (Int32.ofNat k_a2)), some (.int (Int32.ofNat (1068 * k_a0))), some (.int (Int32.ofNat (1068 * k_a1))), none, none]) (zle_s _ (zle_n _ (zle_n _ (zle_s _ (zle_s _ (zle_s _ (zle_s _ (zle_s _ zle_nil)))))))) ?_
                exact zW_cl rfl rfl rfl rfl rfl H
              · have c9 : ¬ (m ((1068 * k_a0) + 2)) = (m ((1068 * k_a1) + 1)) := (of_decide_eq_false c)
                replace H := H.2 c9
                refine zW_gh 106 [some (.ref 75), some (.int (Int32.ofNat k_a0)), some (.int (Int32.ofNat k_a1)), some (.int (Int32.ofNat k_a2)), some (.int (Int32.ofNat (1068 * k_a0))), some (.int (Int32.ofNat (1068 * k_a1))), none, none] [.int (2 : Int32), .ref 75] 2 (fun f => rfl) ?_
                refine zW_cl rfl rfl rfl rfl rfl (s142 ?_)
                change zW zm_155 109 [some (.ref 75), some (.int (Int32.ofNat k_a0)), some (.int (Int32.ofNat k_a1)), some (.int (Int32.ofNat k_a2)), some (.int (Int32.ofNat (1068 * k_a0))), some (.int (Int32.ofNat (1068 * k_a1))), none, none] [.int (0 : Int32)] p _ Q
                exact zW_rh (some (.int (0 : Int32))) 1 (fun f => rfl) H
      · have c9 : (zslot a2) = false := ((zcB_ne _).symm.trans c)
        replace H := H.2 c9
        refine zW_gh 28 [some (.ref 75), some (.int (Int32.ofNat k_a0)), some (.int (Int32.ofNat k_a1)), some (.int a2), none, none, none, none] [.int (1 : Int32), .ref 75] 2 (fun f => rfl) ?_
        refine zW_cl rfl rfl rfl rfl rfl (s142 ?_)
        change zW zm_155 31 [some (.ref 75), some (.int (Int32.ofNat k_a0)), some (.int (Int32.ofNat k_a1)), some (.int a2), none, none, none, none] [.int (0 : Int32)] p _ Q
        exact zW_rh (some (.int (0 : Int32))) 1 (fun f => rfl) H
set_option maxRecDepth 20000 in
theorem b155_149 {K : zKt} {code rf rs pr pn : Int32} {bad : Bool} {J : zJt} {m pa pb pc vf vs : Nat → Int32} {B : zBt} {w : Nat → Int64} {p : Nat × Nat} {Q : zR → zH → Prop} {x3 x4 x5 : Nat} (H : zW zm_155 152 [some (.ref 75), none, none, some (.int (Int32.ofNat x3)), some (.int (Int32.ofNat x4)), some (.int (Int32.ofNat x5)), some (.int (Int32.ofNat 0)), none] [] p (zh K (code, rf, rs, bad, pr, pn, J) (m, pa, pb, pc, vf, vs, B) w) Q) : zW zm_155 149 [some (.ref 75), none, none, some (.int (Int32.ofNat x3)), some (.int (Int32.ofNat x4)), some (.int (Int32.ofNat x5)), none, none] [] p (zh K (code, rf, rs, bad, pr, pn, J) (m, pa, pb, pc, vf, vs, B) w) Q := by
  refine zW_gh 152 [some (.ref 75), none, none, some (.int (Int32.ofNat x3)), some (.int (Int32.ofNat x4)), some (.int (Int32.ofNat x5)), some (.int (0 : Int32)), none] [] 2 (fun f => rfl) ?_
  exact H
set_option maxRecDepth 20000 in
theorem b155_152 {K : zKt} {code rf rs pr pn : Int32} {bad : Bool} {J : zJt} {m pa pb pc vf vs : Nat → Int32} {B : zBt} {w : Nat → Int64} {p : Nat × Nat} {Q : zR → zH → Prop} {x3 x4 x5 x6 : Nat} (H : ((x4 + 1) < 5340 ∧ (((m (x4 + 1)) ≤ (Int32.ofNat x6) → zT zm_146 [.ref 75, .int (3204 : Int32)] p (zh K (code, rf, rs, bad, pr, pn, J) (m, pa, pb, pc, vf, vs, B) w) (zK zm_155 214 [some (.ref 75), none, none, some (.int (Int32.ofNat x3)), none, none, none, none] [] p Q)) ∧ (¬ (m (x4 + 1)) ≤ (Int32.ofNat x6) → zW zm_155 169 [some (.ref 75), none, none, some (.int (Int32.ofNat x3)), some (.int (Int32.ofNat x4)), some (.int (Int32.ofNat x5)), some (.int (Int32.ofNat x6)), some (.int (Int32.ofNat 0))] [] p (zh K (code, rf, rs, bad, pr, pn, J) (m, pa, pb, pc, vf, vs, B) w) Q)))) : zW zm_155 152 [some (.ref 75), none, none, some (.int (Int32.ofNat x3)), some (.int (Int32.ofNat x4)), some (.int (Int32.ofNat x5)), some (.int (Int32.ofNat x6)), none] [] p (zh K (code, rf, rs, bad, pr, pn, J) (m, pa, pb, pc, vf, vs, B) w) Q := by
  refine zW_gh 162 [some (.ref 75), none, none, some (.int (Int32.ofNat x3)), some (.int (Int32.ofNat x4)), some (.int (Int32.ofNat x5)), some (.int (Int32.ofNat x6)), none] [.int ((Int32.ofNat x4) + (1 : Int32)), .ref 76, .int (Int32.ofNat x6)] 6 (fun f => rfl) ?_
  obtain ⟨h1, H⟩ := H
  refine zW_iald rfl (by decide) rfl (by decide) (zN_a rfl rfl) h1 ?_
  refine zW_bh (zcmp .ge (Int32.ofNat x6) (m (x4 + 1))) 207 166 [some (.ref 75), none, none, some (.int (Int32.ofNat x3)), some (.int (Int32.ofNat x4)), some (.int (Int32.ofNat x5)), some (.int (Int32.ofNat x6)), none] [] 1 (fun f => rfl) (fun c => ?_) (fun c => ?_)
  · have c9 : (m (x4 + 1)) ≤ (Int32.ofNat x6) := (of_decide_eq_true c)
    replace H := H.1 c9
    refine zW_gh 211 [some (.ref 75), none, none, some (.int (Int32.ofNat x3)), some (.int (Int32.ofNat x4)), some (.int (Int32.ofNat x5)), some (.int (Int32.ofNat x6)), none] [.int (3204 : Int32), .ref 75] 2 (fun f => rfl) ?_
    refine zW_fg (L' := [some (.ref 75), none, none, some (.int (Int32.ofNat x3)), none, none, none, none]) (zle_s _ (zle_s _ (zle_s _ (zle_s _ (zle_n _ (zle_n _ (zle_n _ (zle_s _ zle_nil)))))))) ?_
    exact zW_cl rfl rfl rfl rfl rfl H
  · have c9 : ¬ (m (x4 + 1)) ≤ (Int32.ofNat x6) := (of_decide_eq_false c)
    replace H := H.2 c9
    refine zW_gh 169 [some (.ref 75), none, none, some (.int (Int32.ofNat x3)), some (.int (Int32.ofNat x4)), some (.int (Int32.ofNat x5)), some (.int (Int32.ofNat x6)), some (.int (0 : Int32))] [] 2 (fun f => rfl) ?_
    exact H
set_option maxRecDepth 20000 in
theorem b155_214 {K : zKt} {code rf rs pr pn : Int32} {bad : Bool} {J : zJt} {m pa pb pc vf vs : Nat → Int32} {B : zBt} {w : Nat → Int64} {p : Nat × Nat} {Q : zR → zH → Prop} {x3 : Nat} (H : zT zm_162 [.ref 75, .int (Int32.ofNat x3), .int (m 3206), .int (3 : Int32)] p (zh K (code, rf, rs, bad, pr, pn, J) (m, pa, pb, pc, vf, vs, B) w) (zK zm_155 228 [none, none, none, none, none, none, none, none] [] p Q)) : zW zm_155 214 [some (.ref 75), none, none, some (.int (Int32.ofNat x3)), none, none, none, none] [] p (zh K (code, rf, rs, bad, pr, pn, J) (m, pa, pb, pc, vf, vs, B) w) Q := by
  refine zW_gh 223 [some (.ref 75), none, none, some (.int (Int32.ofNat x3)), none, none, none, none] [.int (3206 : Int32), .ref 76, .int (Int32.ofNat x3), .ref 75] 5 (fun f => rfl) ?_
  refine zW_iald rfl (by decide) rfl (by decide) rfl (by decide) ?_
  refine zW_gh 225 [some (.ref 75), none, none, some (.int (Int32.ofNat x3)), none, none, none, none] [.int (3 : Int32), .int (m 3206), .int (Int32.ofNat x3), .ref 75] 1 (fun f => rfl) ?_
  refine zW_fg (L' := [none, none, none, none, none, none, none, none]) (zle_n _ (zle_s _ (zle_s _ (zle_n _ (zle_s _ (zle_s _ (zle_s _ (zle_s _ zle_nil)))))))) ?_
  exact zW_cl rfl rfl rfl rfl rfl H
set_option maxRecDepth 20000 in
theorem b155_169 {K : zKt} {code rf rs pr pn : Int32} {bad : Bool} {J : zJt} {m pa pb pc vf vs : Nat → Int32} {B : zBt} {w : Nat → Int64} {p : Nat × Nat} {Q : zR → zH → Prop} {x3 x4 x5 x6 x7 : Nat} (H : ((x5 + 2) < 5340 ∧ (((m (x5 + 2)) ≤ (Int32.ofNat x7) → zW zm_155 152 [some (.ref 75), none, none, some (.int (Int32.ofNat x3)), some (.int (Int32.ofNat x4)), some (.int (Int32.ofNat x5)), some (.int (Int32.ofNat (x6 + 1))), none] [] p (zh K (code, rf, rs, bad, pr, pn, J) (m, pa, pb, pc, vf, vs, B) w) Q) ∧ (¬ (m (x5 + 2)) ≤ (Int32.ofNat x7) → zT zm_156 [.ref 75, .int (Int32.ofNat x4), .int (Int32.ofNat x5), .int (Int32.ofNat x6), .int (Int32.ofNat x7)] p (zh K (code, rf, rs, bad, pr, pn, J) (m, pa, pb, pc, vf, vs, B) w) (zK zm_155 195 [some (.ref 75), none, none, some (.int (Int32.ofNat x3)), some (.int (Int32.ofNat x4)), some (.int (Int32.ofNat x5)), some (.int (Int32.ofNat x6)), some (.int (Int32.ofNat x7))] [] p Q))))) : zW zm_155 169 [some (.ref 75), none, none, some (.int (Int32.ofNat x3)), some (.int (Int32.ofNat x4)), some (.int (Int32.ofNat x5)), some (.int (Int32.ofNat x6)), some (.int (Int32.ofNat x7))] [] p (zh K (code, rf, rs, bad, pr, pn, J) (m, pa, pb, pc, vf, vs, B) w) Q := by
  refine zW_gh 179 [some (.ref 75), none, none, some (.int (Int32.ofNat x3)), some (.int (Int32.ofNat x4)), some (.int (Int32.ofNat x5)), some (.int (Int32.ofNat x6)), some (.int (Int32.ofNat x7))] [.int ((Int32.ofNat x5) + (2 : Int32)), .ref 76, .int (Int32.ofNat x7)] 6 (fun f => rfl) ?_
  obtain ⟨h1, H⟩ := H
  refine zW_iald rfl (by decide) rfl (by decide) (zN_a rfl rfl) h1 ?_
  refine zW_bh (zcmp .ge (Int32.ofNat x7) (m (x5 + 2))) 201 183 [some (.ref 75), none, none, some (.int (Int32.ofNat x3)), some (.int (Int32.ofNat x4)), some (.int (Int32.ofNat x5)), some (.int (Int32.ofNat x6)), some (.int (Int32.ofNat x7))] [] 1 (fun f => rfl) (fun c => ?_) (fun c => ?_)
  · have c9 : (m (x5 + 2)) ≤ (Int32.ofNat x7) := (of_decide_eq_true c)
    replace H := H.1 c9
    refine zW_inc [some (.ref 75), none, none, some (.int (Int32.ofNat x3)), some (.int (Int32.ofNat x4)), some (.int (Int32.ofNat x5)), some (.int ((Int32.ofNat x6) + (1 : Int32))), some (.int (Int32.ofNat x7))] rfl rfl rfl ?_
    rw [show ((Int32.ofNat x6) + (1 : Int32)) = Int32.ofNat (x6 + 1) from (zN_a rfl rfl)]
    refine zW_gh 152 [some (.ref 75), none, none, some (.int (Int32.ofNat x3)), some (.int (Int32.ofNat x4)), some (.int (Int32.ofNat x5)), some (.int (Int32.ofNat (x6 + 1))), some (.int (Int32.ofNat x7))] [] 1 (fun f => rfl) ?_
    refine zW_fg (L' := [some (.ref 75), none, none, some (.int (Int32.ofNat x3)), some (.int (Int32.ofNat x4)), some (.int (Int32.ofNat x5)), some (.int (Int32.ofNat (x6 + 1))), none]) (zle_s _ (zle_s _ (zle_s _ (zle_s _ (zle_s _ (zle_s _ (zle_s _ (zle_n _ zle_nil)))))))) ?_
    exact H
  · have c9 : ¬ (m (x5 + 2)) ≤ (Int32.ofNat x7) := (of_decide_eq_false c)
    replace H := H.2 c9
    refine zW_gh 192 [some (.ref 75), none, none, some (.int (Int32.ofNat x3)), some (.int (Int32.ofNat x4)), some (.int (Int32.ofNat x5)), some (.int (Int32.ofNat x6)), some (.int (Int32.ofNat x7))] [.int (Int32.ofNat x7), .int (Int32.ofNat x6), .int (Int32.ofNat x5), .int (Int32.ofNat x4), .ref 75] 5 (fun f => rfl) ?_
    exact zW_cl rfl rfl rfl rfl rfl H
set_option maxRecDepth 20000 in
theorem b155_228 {K : zKt} {code rf rs pr pn : Int32} {bad : Bool} {J : zJt} {m pa pb pc vf vs : Nat → Int32} {B : zBt} {w : Nat → Int64} {p : Nat × Nat} {Q : zR → zH → Prop} {rv : Int32} (H : Q (.inl (some (.int rv))) (zh K (code, rf, rs, bad, pr, pn, J) (m, pa, pb, pc, vf, vs, B) w)) : zW zm_155 228 [none, none, none, none, none, none, none, none] [.int rv] p (zh K (code, rf, rs, bad, pr, pn, J) (m, pa, pb, pc, vf, vs, B) w) Q := by
  exact zW_rh (some (.int rv)) 1 (fun f => rfl) H
set_option maxRecDepth 20000 in
theorem b155_195 {K : zKt} {code rf rs pr pn : Int32} {bad : Bool} {J : zJt} {m pa pb pc vf vs : Nat → Int32} {B : zBt} {w : Nat → Int64} {p : Nat × Nat} {Q : zR → zH → Prop} {x3 x4 x5 x6 x7 : Nat} (H : zW zm_155 169 [some (.ref 75), none, none, some (.int (Int32.ofNat x3)), some (.int (Int32.ofNat x4)), some (.int (Int32.ofNat x5)), some (.int (Int32.ofNat x6)), some (.int (Int32.ofNat (x7 + 1)))] [] p (zh K (code, rf, rs, bad, pr, pn, J) (m, pa, pb, pc, vf, vs, B) w) Q) : zW zm_155 195 [some (.ref 75), none, none, some (.int (Int32.ofNat x3)), some (.int (Int32.ofNat x4)), some (.int (Int32.ofNat x5)), some (.int (Int32.ofNat x6)), some (.int (Int32.ofNat x7))] [] p (zh K (code, rf, rs, bad, pr, pn, J) (m, pa, pb, pc, vf, vs, B) w) Q := by
  refine zW_inc [some (.ref 75), none, none, some (.int (Int32.ofNat x3)), some (.int (Int32.ofNat x4)), some (.int (Int32.ofNat x5)), some (.int (Int32.ofNat x6)), some (.int ((Int32.ofNat x7) + (1 : Int32)))] rfl rfl rfl ?_
  rw [show ((Int32.ofNat x7) + (1 : Int32)) = Int32.ofNat (x7 + 1) from (zN_a rfl rfl)]
  refine zW_gh 169 [some (.ref 75), none, none, some (.int (Int32.ofNat x3)), some (.int (Int32.ofNat x4)), some (.int (Int32.ofNat x5)), some (.int (Int32.ofNat x6)), some (.int (Int32.ofNat (x7 + 1)))] [] 1 (fun f => rfl) ?_
  exact H
theorem b164 {K : zKt} {code rf rs pr pn : Int32} {bad : Bool} {J : zJt} {m pa pb pc vf vs : Nat → Int32} {B : zBt} {w : Nat → Int64} {p : Nat × Nat} {Q : zR → zH → Prop} {a1 : Nat} {a0 a2 : Int32} (H : (((zslot a0) = true → ∀ k_a0, k_a0 < 3 → a0 = Int32.ofNat k_a0 → (1068 * k_a0 < 5340 ∧ (((decide (m (1068 * k_a0) = -1)) = false → (((1068 * k_a0) + a1) < 5340 ∧ Q (.inl (some (.int (m ((1068 * k_a0) + a1))))) (zh K ((0 : Int32), rf, rs, bad, pr, pn, J) (m, pa, pb, pc, vf, vs, B) w))) ∧ ((decide (m (1068 * k_a0) = -1)) = true → Q (.inl (some (.int a2))) (zh K ((0 : Int32), rf, rs, bad, pr, pn, J) (m, pa, pb, pc, vf, vs, B) w))))) ∧ ((zslot a0) = false → Q (.inl (some (.int (0 : Int32)))) (zh K ((1 : Int32), rf, rs, bad, pr, pn, J) (m, pa, pb, pc, vf, vs, B) w)))) : zT zm_164 [.ref 75, .int a0, .int (Int32.ofNat a1), .int a2] p (zh K (code, rf, rs, bad, pr, pn, J) (m, pa, pb, pc, vf, vs, B) w) Q := by
  change zW zm_164 0 [some (.ref 75), some (.int a0), some (.int (Int32.ofNat a1)), some (.int a2)] [] p _ Q
  refine zW_gh 2 [some (.ref 75), some (.int a0), some (.int (Int32.ofNat a1)), some (.int a2)] [.int (0 : Int32), .ref 75] 2 (fun f => rfl) ?_
  refine zW_go (pc' := 5) (L' := [some (.ref 75), some (.int a0), some (.int (Int32.ofNat a1)), some (.int a2)]) (st' := []) (h' := (va_up (zh K (code, rf, rs, bad, pr, pn, J) (m, pa, pb, pc, vf, vs, B) w) 75 (.inr (7, zfl ((0 : Int32), rf, rs, bad, pr, pn, J))))) 1 (fun f => rfl) ?_
  refine zW_eq zu_75 ?_
  refine zW_gh 6 [some (.ref 75), some (.int a0), some (.int (Int32.ofNat a1)), some (.int a2)] [.int a0] 1 (fun f => rfl) ?_
  refine zW_cl rfl rfl rfl rfl rfl (s140 ?_)
  change zW zm_164 9 [some (.ref 75), some (.int a0), some (.int (Int32.ofNat a1)), some (.int a2)] [.int (zbi (zslot a0))] p _ Q
  refine zW_bh (zcmp .ne (zbi (zslot a0)) (0 : Int32)) 18 12 [some (.ref 75), some (.int a0), some (.int (Int32.ofNat a1)), some (.int a2)] [] 1 (fun f => rfl) (fun c => ?_) (fun c => ?_)
  · have c9 : (zslot a0) = true := ((zcB_ne _).symm.trans c)
    replace H := H.1 c9
    obtain ⟨k_a0, h_k_a0, e_k_a0⟩ := zslot_n c9
    replace H := H k_a0 h_k_a0 e_k_a0
    subst e_k_a0
    refine zW_gh 20 [some (.ref 75), some (.int (Int32.ofNat k_a0)), some (.int (Int32.ofNat a1)), some (.int a2)] [.int (Int32.ofNat k_a0), .ref 75] 2 (fun f => rfl) ?_
    obtain ⟨h1, H⟩ := H
    refine zW_cl rfl rfl rfl rfl rfl ((s144 rfl) h1 ?_)
    change zW zm_164 23 [some (.ref 75), some (.int (Int32.ofNat k_a0)), some (.int (Int32.ofNat a1)), some (.int a2)] [.int (zbi (decide (m (1068 * k_a0) = -1)))] p _ Q
    refine zW_bh (zcmp .eq (zbi (decide (m (1068 * k_a0) = -1))) (0 : Int32)) 30 26 [some (.ref 75), some (.int (Int32.ofNat k_a0)), some (.int (Int32.ofNat a1)), some (.int a2)] [] 1 (fun f => rfl) (fun c => ?_) (fun c => ?_)
    · have c9 : (decide (m (1068 * k_a0) = -1)) = false := ((Bool.not_eq_true' _).mp ((zcB_eq _).symm.trans c))
      replace H := H.1 c9
      refine zW_gh 41 [some (.ref 75), some (.int (Int32.ofNat k_a0)), some (.int (Int32.ofNat a1)), some (.int a2)] [.int (((1068 : Int32) * (Int32.ofNat k_a0)) + (Int32.ofNat a1)), .ref 76] 7 (fun f => rfl) ?_
      obtain ⟨h2, H⟩ := H
      refine zW_iald rfl (by decide) rfl (by decide) (zN_a (zN_m rfl rfl) rfl) h2 ?_
      exact zW_rh (some (.int (m ((1068 * k_a0) + a1)))) 1 (fun f => rfl) H
    · have c9 : (decide (m (1068 * k_a0) = -1)) = true := ((Bool.not_eq_false' _).mp ((zcB_eq _).symm.trans c))
      replace H := H.2 c9
      refine zW_gh 42 [some (.ref 75), some (.int (Int32.ofNat k_a0)), some (.int (Int32.ofNat a1)), some (.int a2)] [.int a2] 2 (fun f => rfl) ?_
      exact zW_rh (some (.int a2)) 1 (fun f => rfl) H
  · have c9 : (zslot a0) = false := ((zcB_ne _).symm.trans c)
    replace H := H.2 c9
    refine zW_gh 14 [some (.ref 75), some (.int a0), some (.int (Int32.ofNat a1)), some (.int a2)] [.int (1 : Int32), .ref 75] 2 (fun f => rfl) ?_
    refine zW_cl rfl rfl rfl rfl rfl (s142 ?_)
    change zW zm_164 17 [some (.ref 75), some (.int a0), some (.int (Int32.ofNat a1)), some (.int a2)] [.int (0 : Int32)] p _ Q
    exact zW_rh (some (.int (0 : Int32))) 1 (fun f => rfl) H
theorem b163 {K : zKt} {code rf rs pr pn : Int32} {bad : Bool} {J : zJt} {m pa pb pc vf vs : Nat → Int32} {B : zBt} {w : Nat → Int64} {p : Nat × Nat} {Q : zR → zH → Prop} {a0 : Int32} (H : zT zm_164 [.ref 75, .int a0, .int (0 : Int32), .int (-1 : Int32)] p (zh K (code, rf, rs, bad, pr, pn, J) (m, pa, pb, pc, vf, vs, B) w) (zK zm_163 7 [none, none] [] p Q)) : zT zm_163 [.ref 75, .int a0] p (zh K (code, rf, rs, bad, pr, pn, J) (m, pa, pb, pc, vf, vs, B) w) Q := by
  change zW zm_163 0 [some (.ref 75), some (.int a0)] [] p _ Q
  refine zW_gh 4 [some (.ref 75), some (.int a0)] [.int (-1 : Int32), .int (0 : Int32), .int a0, .ref 75] 4 (fun f => rfl) ?_
  refine zW_fg (L' := [none, none]) (zle_n _ (zle_n _ zle_nil)) ?_
  exact zW_cl rfl rfl rfl rfl rfl H
theorem b163_7 {K : zKt} {code rf rs pr pn : Int32} {bad : Bool} {J : zJt} {m pa pb pc vf vs : Nat → Int32} {B : zBt} {w : Nat → Int64} {p : Nat × Nat} {Q : zR → zH → Prop} {rv : Int32} (H : Q (.inl (some (.int rv))) (zh K (code, rf, rs, bad, pr, pn, J) (m, pa, pb, pc, vf, vs, B) w)) : zW zm_163 7 [none, none] [.int rv] p (zh K (code, rf, rs, bad, pr, pn, J) (m, pa, pb, pc, vf, vs, B) w) Q := by
  exact zW_rh (some (.int rv)) 1 (fun f => rfl) H
theorem b165 {K : zKt} {code rf rs pr pn : Int32} {bad : Bool} {J : zJt} {m pa pb pc vf vs : Nat → Int32} {B : zBt} {w : Nat → Int64} {p : Nat × Nat} {Q : zR → zH → Prop} {a0 : Int32} (H : zT zm_164 [.ref 75, .int a0, .int (1 : Int32), .int (0 : Int32)] p (zh K (code, rf, rs, bad, pr, pn, J) (m, pa, pb, pc, vf, vs, B) w) (zK zm_165 7 [none, none] [] p Q)) : zT zm_165 [.ref 75, .int a0] p (zh K (code, rf, rs, bad, pr, pn, J) (m, pa, pb, pc, vf, vs, B) w) Q := by
  change zW zm_165 0 [some (.ref 75), some (.int a0)] [] p _ Q
  refine zW_gh 4 [some (.ref 75), some (.int a0)] [.int (0 : Int32), .int (1 : Int32), .int a0, .ref 75] 4 (fun f => rfl) ?_
  refine zW_fg (L' := [none, none]) (zle_n _ (zle_n _ zle_nil)) ?_
  exact zW_cl rfl rfl rfl rfl rfl H
theorem b165_7 {K : zKt} {code rf rs pr pn : Int32} {bad : Bool} {J : zJt} {m pa pb pc vf vs : Nat → Int32} {B : zBt} {w : Nat → Int64} {p : Nat × Nat} {Q : zR → zH → Prop} {rv : Int32} (H : Q (.inl (some (.int rv))) (zh K (code, rf, rs, bad, pr, pn, J) (m, pa, pb, pc, vf, vs, B) w)) : zW zm_165 7 [none, none] [.int rv] p (zh K (code, rf, rs, bad, pr, pn, J) (m, pa, pb, pc, vf, vs, B) w) Q := by
  exact zW_rh (some (.int rv)) 1 (fun f => rfl) H
theorem b166 {K : zKt} {code rf rs pr pn : Int32} {bad : Bool} {J : zJt} {m pa pb pc vf vs : Nat → Int32} {B : zBt} {w : Nat → Int64} {p : Nat × Nat} {Q : zR → zH → Prop} {a0 : Int32} (H : zT zm_164 [.ref 75, .int a0, .int (2 : Int32), .int (0 : Int32)] p (zh K (code, rf, rs, bad, pr, pn, J) (m, pa, pb, pc, vf, vs, B) w) (zK zm_166 7 [none, none] [] p Q)) : zT zm_166 [.ref 75, .int a0] p (zh K (code, rf, rs, bad, pr, pn, J) (m, pa, pb, pc, vf, vs, B) w) Q := by
  change zW zm_166 0 [some (.ref 75), some (.int a0)] [] p _ Q
  refine zW_gh 4 [some (.ref 75), some (.int a0)] [.int (0 : Int32), .int (2 : Int32), .int a0, .ref 75] 4 (fun f => rfl) ?_
  refine zW_fg (L' := [none, none]) (zle_n _ (zle_n _ zle_nil)) ?_
  exact zW_cl rfl rfl rfl rfl rfl H
theorem b166_7 {K : zKt} {code rf rs pr pn : Int32} {bad : Bool} {J : zJt} {m pa pb pc vf vs : Nat → Int32} {B : zBt} {w : Nat → Int64} {p : Nat × Nat} {Q : zR → zH → Prop} {rv : Int32} (H : Q (.inl (some (.int rv))) (zh K (code, rf, rs, bad, pr, pn, J) (m, pa, pb, pc, vf, vs, B) w)) : zW zm_166 7 [none, none] [.int rv] p (zh K (code, rf, rs, bad, pr, pn, J) (m, pa, pb, pc, vf, vs, B) w) Q := by
  exact zW_rh (some (.int rv)) 1 (fun f => rfl) H
theorem b167 {K : zKt} {code rf rs pr pn : Int32} {bad : Bool} {J : zJt} {m pa pb pc vf vs : Nat → Int32} {B : zBt} {w : Nat → Int64} {p : Nat × Nat} {Q : zR → zH → Prop} {a0 : Int32} (H : zT zm_164 [.ref 75, .int a0, .int (3 : Int32), .int (0 : Int32)] p (zh K (code, rf, rs, bad, pr, pn, J) (m, pa, pb, pc, vf, vs, B) w) (zK zm_167 7 [none, none] [] p Q)) : zT zm_167 [.ref 75, .int a0] p (zh K (code, rf, rs, bad, pr, pn, J) (m, pa, pb, pc, vf, vs, B) w) Q := by
  change zW zm_167 0 [some (.ref 75), some (.int a0)] [] p _ Q
  refine zW_gh 4 [some (.ref 75), some (.int a0)] [.int (0 : Int32), .int (3 : Int32), .int a0, .ref 75] 4 (fun f => rfl) ?_
  refine zW_fg (L' := [none, none]) (zle_n _ (zle_n _ zle_nil)) ?_
  exact zW_cl rfl rfl rfl rfl rfl H
theorem b167_7 {K : zKt} {code rf rs pr pn : Int32} {bad : Bool} {J : zJt} {m pa pb pc vf vs : Nat → Int32} {B : zBt} {w : Nat → Int64} {p : Nat × Nat} {Q : zR → zH → Prop} {rv : Int32} (H : Q (.inl (some (.int rv))) (zh K (code, rf, rs, bad, pr, pn, J) (m, pa, pb, pc, vf, vs, B) w)) : zW zm_167 7 [none, none] [.int rv] p (zh K (code, rf, rs, bad, pr, pn, J) (m, pa, pb, pc, vf, vs, B) w) Q := by
  exact zW_rh (some (.int rv)) 1 (fun f => rfl) H
theorem b169 {K : zKt} {code rf rs pr pn : Int32} {bad : Bool} {J : zJt} {m pa pb pc vf vs : Nat → Int32} {B : zBt} {w : Nat → Int64} {p : Nat × Nat} {Q : zR → zH → Prop} {a0 : Int32} (H : (((zslot a0) = true → ∀ k_a0, k_a0 < 3 → a0 = Int32.ofNat k_a0 → (1068 * k_a0 < 5340 ∧ (((decide (m (1068 * k_a0) = -1)) = false → Q (.inl (some (.int (0 : Int32)))) (zh K ((0 : Int32), rf, rs, bad, pr, pn, J) (m, pa, pb, pc, vf, vs, B) w)) ∧ ((decide (m (1068 * k_a0) = -1)) = true → Q (.inl (some (.int (2 : Int32)))) (zh K ((0 : Int32), rf, rs, bad, pr, pn, J) (m, pa, pb, pc, vf, vs, B) w))))) ∧ ((zslot a0) = false → Q (.inl (some (.int (1 : Int32)))) (zh K ((0 : Int32), rf, rs, bad, pr, pn, J) (m, pa, pb, pc, vf, vs, B) w)))) : zT zm_169 [.ref 75, .int a0] p (zh K (code, rf, rs, bad, pr, pn, J) (m, pa, pb, pc, vf, vs, B) w) Q := by
  change zW zm_169 0 [some (.ref 75), some (.int a0)] [] p _ Q
  refine zW_gh 2 [some (.ref 75), some (.int a0)] [.int (0 : Int32), .ref 75] 2 (fun f => rfl) ?_
  refine zW_go (pc' := 5) (L' := [some (.ref 75), some (.int a0)]) (st' := []) (h' := (va_up (zh K (code, rf, rs, bad, pr, pn, J) (m, pa, pb, pc, vf, vs, B) w) 75 (.inr (7, zfl ((0 : Int32), rf, rs, bad, pr, pn, J))))) 1 (fun f => rfl) ?_
  refine zW_eq zu_75 ?_
  refine zW_gh 6 [some (.ref 75), some (.int a0)] [.int a0] 1 (fun f => rfl) ?_
  refine zW_cl rfl rfl rfl rfl rfl (s140 ?_)
  change zW zm_169 9 [some (.ref 75), some (.int a0)] [.int (zbi (zslot a0))] p _ Q
  refine zW_bh (zcmp .ne (zbi (zslot a0)) (0 : Int32)) 16 12 [some (.ref 75), some (.int a0)] [] 1 (fun f => rfl) (fun c => ?_) (fun c => ?_)
  · have c9 : (zslot a0) = true := ((zcB_ne _).symm.trans c)
    replace H := H.1 c9
    obtain ⟨k_a0, h_k_a0, e_k_a0⟩ := zslot_n c9
    replace H := H k_a0 h_k_a0 e_k_a0
    subst e_k_a0
    refine zW_gh 18 [some (.ref 75), some (.int (Int32.ofNat k_a0))] [.int (Int32.ofNat k_a0), .ref 75] 2 (fun f => rfl) ?_
    obtain ⟨h1, H⟩ := H
    refine zW_cl rfl rfl rfl rfl rfl ((s144 rfl) h1 ?_)
    change zW zm_169 21 [some (.ref 75), some (.int (Int32.ofNat k_a0))] [.int (zbi (decide (m (1068 * k_a0) = -1)))] p _ Q
    refine zW_bh (zcmp .eq (zbi (decide (m (1068 * k_a0) = -1))) (0 : Int32)) 28 24 [some (.ref 75), some (.int (Int32.ofNat k_a0))] [] 1 (fun f => rfl) (fun c => ?_) (fun c => ?_)
    · have c9 : (decide (m (1068 * k_a0) = -1)) = false := ((Bool.not_eq_true' _).mp ((zcB_eq _).symm.trans c))
      replace H := H.1 c9
      refine zW_gh 29 [some (.ref 75), some (.int (Int32.ofNat k_a0))] [.int (0 : Int32)] 1 (fun f => rfl) ?_
      exact zW_rh (some (.int (0 : Int32))) 1 (fun f => rfl) H
    · have c9 : (decide (m (1068 * k_a0) = -1)) = true := ((Bool.not_eq_false' _).mp ((zcB_eq _).symm.trans c))
      replace H := H.2 c9
      refine zW_gh 29 [some (.ref 75), some (.int (Int32.ofNat k_a0))] [.int (2 : Int32)] 2 (fun f => rfl) ?_
      exact zW_rh (some (.int (2 : Int32))) 1 (fun f => rfl) H
  · have c9 : (zslot a0) = false := ((zcB_ne _).symm.trans c)
    replace H := H.2 c9
    refine zW_gh 29 [some (.ref 75), some (.int a0)] [.int (1 : Int32)] 2 (fun f => rfl) ?_
    exact zW_rh (some (.int (1 : Int32))) 1 (fun f => rfl) H
theorem b168 {K : zKt} {code rf rs pr pn : Int32} {bad : Bool} {J : zJt} {m pa pb pc vf vs : Nat → Int32} {B : zBt} {w : Nat → Int64} {p : Nat × Nat} {Q : zR → zH → Prop} {a0 a1 a2 a3 : Int32} (H : zT zm_169 [.ref 75, .int a0] p (zh K (code, rf, rs, bad, pr, pn, J) (m, pa, pb, pc, vf, vs, B) w) (zK zm_168 5 [some (.ref 75), some (.int a0), some (.int a1), some (.int a2), some (.int a3), none] [] p Q)) : zT zm_168 [.ref 75, .int a0, .int a1, .int a2, .int a3] p (zh K (code, rf, rs, bad, pr, pn, J) (m, pa, pb, pc, vf, vs, B) w) Q := by
  change zW zm_168 0 [some (.ref 75), some (.int a0), some (.int a1), some (.int a2), some (.int a3), none] [] p _ Q
  refine zW_gh 2 [some (.ref 75), some (.int a0), some (.int a1), some (.int a2), some (.int a3), none] [.int a0, .ref 75] 2 (fun f => rfl) ?_
  exact zW_cl rfl rfl rfl rfl rfl H
theorem b168_5 {K : zKt} {code rf rs pr pn : Int32} {bad : Bool} {J : zJt} {m pa pb pc vf vs : Nat → Int32} {B : zBt} {w : Nat → Int64} {p : Nat × Nat} {Q : zR → zH → Prop} {x1 x2 x3 x4 rv : Int32} (H : ((rv ≤ (0 : Int32) → (∃ j1, x1 = Int32.ofNat j1 ∧ (1068 * j1 + 2 < 5340 ∧ (((zhasE m j1 x2 x3) = false → Q (.inl (some (.int (0 : Int32)))) (zh K ((3 : Int32), rf, rs, bad, pr, pn, J) (m, pa, pb, pc, vf, vs, B) w)) ∧ ((zhasE m j1 x2 x3) = true → ∀ k_x2, k_x2 < 2147483648 → x2 = Int32.ofNat k_x2 → ∀ k_x3, k_x3 < 2147483648 → x3 = Int32.ofNat k_x3 → (((zin ((x4).toInt64) (0 : Int64) (1 : Int64)) = true → ∀ k_x4, 0 ≤ k_x4 ∧ k_x4 ≤ 1 → x4 = Int32.ofNat k_x4 → (∃ j3, ((((((1068 : Int32) * x1) + (4 : Int32)) + ((8 : Int32) * (Int32.ofNat k_x2))) + ((2 : Int32) * (Int32.ofNat k_x3))) + (Int32.ofNat k_x4)) = Int32.ofNat j3 ∧ (j3 < 5340 ∧ Q (.inl (some (.int (m j3)))) (zh K (code, rf, rs, bad, pr, pn, J) (m, pa, pb, pc, vf, vs, B) w)))) ∧ ((zin ((x4).toInt64) (0 : Int64) (1 : Int64)) = false → Q (.inl (some (.int (0 : Int32)))) (zh K ((3 : Int32), rf, rs, bad, pr, pn, J) (m, pa, pb, pc, vf, vs, B) w)))))))) ∧ (¬ rv ≤ (0 : Int32) → Q (.inl (some (.int (0 : Int32)))) (zh K (rv, rf, rs, bad, pr, pn, J) (m, pa, pb, pc, vf, vs, B) w)))) : zW zm_168 5 [some (.ref 75), some (.int x1), some (.int x2), some (.int x3), some (.int x4), none] [.int rv] p (zh K (code, rf, rs, bad, pr, pn, J) (m, pa, pb, pc, vf, vs, B) w) Q := by
  refine zW_bh (zcmp .le rv (0 : Int32)) 19 12 [some (.ref 75), some (.int x1), some (.int x2), some (.int x3), some (.int x4), some (.int rv)] [] 3 (fun f => rfl) (fun c => ?_) (fun c => ?_)
  · have c9 : rv ≤ (0 : Int32) := (of_decide_eq_true c)
    replace H := H.1 c9
    obtain ⟨j1, e_j1, H⟩ := H
    refine zW_gh 23 [some (.ref 75), some (.int x1), some (.int x2), some (.int x3), some (.int x4), some (.int rv)] [.int x3, .int x2, .int x1, .ref 75] 4 (fun f => rfl) ?_
    obtain ⟨h2, H⟩ := H
    refine zW_cl rfl rfl rfl rfl rfl ((s148 e_j1) h2 ?_)
    change zW zm_168 26 [some (.ref 75), some (.int x1), some (.int x2), some (.int x3), some (.int x4), some (.int rv)] [.int (zbi (zhasE m j1 x2 x3))] p _ Q
    refine zW_bh (zcmp .eq (zbi (zhasE m j1 x2 x3)) (0 : Int32)) 40 29 [some (.ref 75), some (.int x1), some (.int x2), some (.int x3), some (.int x4), some (.int rv)] [] 1 (fun f => rfl) (fun c => ?_) (fun c => ?_)
    · have c9 : (zhasE m j1 x2 x3) = false := ((Bool.not_eq_true' _).mp ((zcB_eq _).symm.trans c))
      replace H := H.1 c9
      refine zW_gh 42 [some (.ref 75), some (.int x1), some (.int x2), some (.int x3), some (.int x4), some (.int rv)] [.int (3 : Int32), .ref 75] 2 (fun f => rfl) ?_
      refine zW_cl rfl rfl rfl rfl rfl (s142 ?_)
      change zW zm_168 45 [some (.ref 75), some (.int x1), some (.int x2), some (.int x3), some (.int x4), some (.int rv)] [.int (0 : Int32)] p _ Q
      exact zW_rh (some (.int (0 : Int32))) 1 (fun f => rfl) H
    · have c9 : (zhasE m j1 x2 x3) = true := ((Bool.not_eq_false' _).mp ((zcB_eq _).symm.trans c))
      replace H := H.2 c9
      obtain ⟨k_x2, h_k_x2, e_k_x2⟩ := zhasE_r c9
      replace H := H k_x2 h_k_x2 e_k_x2
      subst e_k_x2
      obtain ⟨k_x3, h_k_x3, e_k_x3⟩ := zhasE_c c9
      replace H := H k_x3 h_k_x3 e_k_x3
      subst e_k_x3
      refine zW_gh 34 [some (.ref 75), some (.int x1), some (.int (Int32.ofNat k_x2)), some (.int (Int32.ofNat k_x3)), some (.int x4), some (.int rv)] [.long (1 : Int64), .long (0 : Int64), .long ((x4).toInt64)] 4 (fun f => rfl) ?_
      refine zW_cl rfl rfl rfl rfl rfl (s141 ?_)
      change zW zm_168 37 [some (.ref 75), some (.int x1), some (.int (Int32.ofNat k_x2)), some (.int (Int32.ofNat k_x3)), some (.int x4), some (.int rv)] [.int (zbi (zin ((x4).toInt64) (0 : Int64) (1 : Int64)))] p _ Q
      refine zW_bh (zcmp .ne (zbi (zin ((x4).toInt64) (0 : Int64) (1 : Int64))) (0 : Int32)) 46 40 [some (.ref 75), some (.int x1), some (.int (Int32.ofNat k_x2)), some (.int (Int32.ofNat k_x3)), some (.int x4), some (.int rv)] [] 1 (fun f => rfl) (fun c => ?_) (fun c => ?_)
      · have c9 : (zin ((x4).toInt64) (0 : Int64) (1 : Int64)) = true := ((zcB_ne _).symm.trans c)
        replace H := H.1 c9
        obtain ⟨k_x4, h_k_x4, e_k_x4⟩ := zin_k (l := 0) (h := 1) (by decide) (by decide) c9
        replace H := H k_x4 h_k_x4 e_k_x4
        subst e_k_x4
        refine zW_gh 57 [some (.ref 75), some (.int x1), some (.int (Int32.ofNat k_x2)), some (.int (Int32.ofNat k_x3)), some (.int (Int32.ofNat k_x4)), some (.int rv)] [.int (Int32.ofNat k_x3), .int (Int32.ofNat k_x2), .int ((1068 : Int32) * x1), .ref 76] 7 (fun f => rfl) ?_
        refine zW_cl rfl rfl rfl rfl rfl (s151 ?_)
        change zW zm_168 60 [some (.ref 75), some (.int x1), some (.int (Int32.ofNat k_x2)), some (.int (Int32.ofNat k_x3)), some (.int (Int32.ofNat k_x4)), some (.int rv)] [.int (((((1068 : Int32) * x1) + (4 : Int32)) + ((8 : Int32) * (Int32.ofNat k_x2))) + ((2 : Int32) * (Int32.ofNat k_x3))), .ref 76] p _ Q
        refine zW_gh 63 [some (.ref 75), some (.int x1), some (.int (Int32.ofNat k_x2)), some (.int (Int32.ofNat k_x3)), some (.int (Int32.ofNat k_x4)), some (.int rv)] [.int ((((((1068 : Int32) * x1) + (4 : Int32)) + ((8 : Int32) * (Int32.ofNat k_x2))) + ((2 : Int32) * (Int32.ofNat k_x3))) + (Int32.ofNat k_x4)), .ref 76] 2 (fun f => rfl) ?_
        obtain ⟨j3, e_j3, H⟩ := H
        obtain ⟨h4, H⟩ := H
        refine zW_iald rfl (by decide) rfl (by decide) e_j3 h4 ?_
        exact zW_rh (some (.int (m j3))) 1 (fun f => rfl) H
      · have c9 : (zin ((x4).toInt64) (0 : Int64) (1 : Int64)) = false := ((zcB_ne _).symm.trans c)
        replace H := H.2 c9
        refine zW_gh 42 [some (.ref 75), some (.int x1), some (.int (Int32.ofNat k_x2)), some (.int (Int32.ofNat k_x3)), some (.int x4), some (.int rv)] [.int (3 : Int32), .ref 75] 2 (fun f => rfl) ?_
        refine zW_cl rfl rfl rfl rfl rfl (s142 ?_)
        change zW zm_168 45 [some (.ref 75), some (.int x1), some (.int (Int32.ofNat k_x2)), some (.int (Int32.ofNat k_x3)), some (.int x4), some (.int rv)] [.int (0 : Int32)] p _ Q
        exact zW_rh (some (.int (0 : Int32))) 1 (fun f => rfl) H
  · have c9 : ¬ rv ≤ (0 : Int32) := (of_decide_eq_false c)
    replace H := H.2 c9
    refine zW_gh 15 [some (.ref 75), some (.int x1), some (.int x2), some (.int x3), some (.int x4), some (.int rv)] [.int rv, .ref 75] 2 (fun f => rfl) ?_
    refine zW_cl rfl rfl rfl rfl rfl (s142 ?_)
    change zW zm_168 18 [some (.ref 75), some (.int x1), some (.int x2), some (.int x3), some (.int x4), some (.int rv)] [.int (0 : Int32)] p _ Q
    exact zW_rh (some (.int (0 : Int32))) 1 (fun f => rfl) H
theorem b172 {K : zKt} {code rf rs pr pn : Int32} {bad : Bool} {J : zJt} {m pa pb pc vf vs : Nat → Int32} {B : zBt} {w : Nat → Int64} {p : Nat × Nat} {Q : zR → zH → Prop} {a0 a1 a2 : Nat} {a3 a4 a5 : Int32} (H : zT zm_173 [.ref 75, .int (Int32.ofNat a0)] p (zh K (code, rf, rs, bad, pr, pn, J) (m, pa, pb, pc, vf, vs, B) w) (zK zm_172 5 [some (.ref 75), some (.int (Int32.ofNat a0)), some (.int (Int32.ofNat a1)), some (.int (Int32.ofNat a2)), some (.int a3), some (.int a4), some (.int a5)] [] p Q)) : zT zm_172 [.ref 75, .int (Int32.ofNat a0), .int (Int32.ofNat a1), .int (Int32.ofNat a2), .int a3, .int a4, .int a5] p (zh K (code, rf, rs, bad, pr, pn, J) (m, pa, pb, pc, vf, vs, B) w) Q := by
  change zW zm_172 0 [some (.ref 75), some (.int (Int32.ofNat a0)), some (.int (Int32.ofNat a1)), some (.int (Int32.ofNat a2)), some (.int a3), some (.int a4), some (.int a5)] [] p _ Q
  refine zW_gh 2 [some (.ref 75), some (.int (Int32.ofNat a0)), some (.int (Int32.ofNat a1)), some (.int (Int32.ofNat a2)), some (.int a3), some (.int a4), some (.int a5)] [.int (Int32.ofNat a0), .ref 75] 2 (fun f => rfl) ?_
  exact zW_cl rfl rfl rfl rfl rfl H
theorem b172_5 {K : zKt} {code rf rs pr pn : Int32} {bad : Bool} {J : zJt} {m pa pb pc vf vs : Nat → Int32} {B : zBt} {w : Nat → Int64} {p : Nat × Nat} {Q : zR → zH → Prop} {x1 x2 x3 : Nat} {x4 x5 x6 : Int32} (H : zT zm_174 [.ref 75, .int (3204 : Int32), .int (Int32.ofNat x2), .int (Int32.ofNat x3), .int x4, .int x5, .int x6] p (zh K (code, rf, rs, bad, pr, pn, J) (m, pa, pb, pc, vf, vs, B) w) (zK zm_172 20 [some (.ref 75), some (.int (Int32.ofNat x1)), none, none, none, none, none] [] p Q)) : zW zm_172 5 [some (.ref 75), some (.int (Int32.ofNat x1)), some (.int (Int32.ofNat x2)), some (.int (Int32.ofNat x3)), some (.int x4), some (.int x5), some (.int x6)] [] p (zh K (code, rf, rs, bad, pr, pn, J) (m, pa, pb, pc, vf, vs, B) w) Q := by
  refine zW_gh 17 [some (.ref 75), some (.int (Int32.ofNat x1)), some (.int (Int32.ofNat x2)), some (.int (Int32.ofNat x3)), some (.int x4), some (.int x5), some (.int x6)] [.int x6, .int x5, .int x4, .int (Int32.ofNat x3), .int (Int32.ofNat x2), .int (3204 : Int32), .ref 75] 7 (fun f => rfl) ?_
  refine zW_fg (L' := [some (.ref 75), some (.int (Int32.ofNat x1)), none, none, none, none, none]) (zle_s _ (zle_s _ (zle_n _ (zle_n _ (zle_n _ (zle_n _ (zle_n _ zle_nil))))))) ?_
  exact zW_cl rfl rfl rfl rfl rfl H
theorem b172_20 {K : zKt} {code rf rs pr pn : Int32} {bad : Bool} {J : zJt} {m pa pb pc vf vs : Nat → Int32} {B : zBt} {w : Nat → Int64} {p : Nat × Nat} {Q : zR → zH → Prop} {x1 : Nat} (H : zT zm_162 [.ref 75, .int (Int32.ofNat x1), .int (m 3207), .int (4 : Int32)] p (zh K (code, rf, rs, bad, pr, pn, J) (m, pa, pb, pc, vf, vs, B) w) (zK zm_172 34 [none, none, none, none, none, none, none] [] p Q)) : zW zm_172 20 [some (.ref 75), some (.int (Int32.ofNat x1)), none, none, none, none, none] [] p (zh K (code, rf, rs, bad, pr, pn, J) (m, pa, pb, pc, vf, vs, B) w) Q := by
  refine zW_gh 29 [some (.ref 75), some (.int (Int32.ofNat x1)), none, none, none, none, none] [.int (3207 : Int32), .ref 76, .int (Int32.ofNat x1), .ref 75] 5 (fun f => rfl) ?_
  refine zW_iald rfl (by decide) rfl (by decide) rfl (by decide) ?_
  refine zW_gh 31 [some (.ref 75), some (.int (Int32.ofNat x1)), none, none, none, none, none] [.int (4 : Int32), .int (m 3207), .int (Int32.ofNat x1), .ref 75] 1 (fun f => rfl) ?_
  refine zW_fg (L' := [none, none, none, none, none, none, none]) (zle_n _ (zle_n _ (zle_s _ (zle_s _ (zle_s _ (zle_s _ (zle_s _ zle_nil))))))) ?_
  exact zW_cl rfl rfl rfl rfl rfl H
theorem b172_34 {K : zKt} {code rf rs pr pn : Int32} {bad : Bool} {J : zJt} {m pa pb pc vf vs : Nat → Int32} {B : zBt} {w : Nat → Int64} {p : Nat × Nat} {Q : zR → zH → Prop} {rv : Int32} (H : Q (.inl (some (.int rv))) (zh K (code, rf, rs, bad, pr, pn, J) (m, pa, pb, pc, vf, vs, B) w)) : zW zm_172 34 [none, none, none, none, none, none, none] [.int rv] p (zh K (code, rf, rs, bad, pr, pn, J) (m, pa, pb, pc, vf, vs, B) w) Q := by
  exact zW_rh (some (.int rv)) 1 (fun f => rfl) H
theorem b170 {K : zKt} {code rf rs pr pn : Int32} {bad : Bool} {J : zJt} {m pa pb pc vf vs : Nat → Int32} {B : zBt} {w : Nat → Int64} {p : Nat × Nat} {Q : zR → zH → Prop} {a0 a2 a3 : Int32} {a1 : Bool} (H : zT zm_169 [.ref 75, .int a0] p (zh K (code, rf, rs, bad, pr, pn, J) (m, pa, pb, pc, vf, vs, B) w) (zK zm_170 5 [some (.ref 75), some (.int a0), some (.int (zbi a1)), some (.int a2), some (.int a3), none] [] p Q)) : zT zm_170 [.ref 75, .int a0, .int (zbi a1), .int a2, .int a3] p (zh K (code, rf, rs, bad, pr, pn, J) (m, pa, pb, pc, vf, vs, B) w) Q := by
  change zW zm_170 0 [some (.ref 75), some (.int a0), some (.int (zbi a1)), some (.int a2), some (.int a3), none] [] p _ Q
  refine zW_gh 2 [some (.ref 75), some (.int a0), some (.int (zbi a1)), some (.int a2), some (.int a3), none] [.int a0, .ref 75] 2 (fun f => rfl) ?_
  exact zW_cl rfl rfl rfl rfl rfl H
theorem b170_5 {K : zKt} {code rf rs pr pn : Int32} {bad : Bool} {J : zJt} {m pa pb pc vf vs : Nat → Int32} {B : zBt} {w : Nat → Int64} {p : Nat × Nat} {Q : zR → zH → Prop} {x1 x3 x4 rv : Int32} {x2 : Bool} (H : ((rv ≤ (0 : Int32) → (∃ j1, x1 = Int32.ofNat j1 ∧ (1068 * j1 + 2 < 5340 ∧ (((zareL m j1 x2 x3 x4) = false → Q (.inl (some (.int (0 : Int32)))) (zh K ((3 : Int32), rf, rs, bad, pr, pn, J) (m, pa, pb, pc, vf, vs, B) w)) ∧ ((zareL m j1 x2 x3 x4) = true → ∀ k_x3, k_x3 < 2147483648 → x3 = Int32.ofNat k_x3 → ∀ k_x4, k_x4 < 2147483648 → x4 = Int32.ofNat k_x4 → ((¬ k_x3 = k_x4 → ((x2 = false → zT zm_172 [.ref 75, .int x1, .int (0 : Int32), .int (Int32.ofNat k_x3), .int (Int32.ofNat k_x4), .int (0 : Int32), .int (0 : Int32)] p (zh K (code, rf, rs, bad, pr, pn, J) (m, pa, pb, pc, vf, vs, B) w) (zK zm_170 62 [none, none, none, none, none, none] [] p Q)) ∧ (x2 = true → zT zm_172 [.ref 75, .int x1, .int (3 : Int32), .int (Int32.ofNat k_x3), .int (Int32.ofNat k_x4), .int (0 : Int32), .int (0 : Int32)] p (zh K (code, rf, rs, bad, pr, pn, J) (m, pa, pb, pc, vf, vs, B) w) (zK zm_170 62 [none, none, none, none, none, none] [] p Q)))) ∧ (k_x3 = k_x4 → Q (.inl (some (.int (0 : Int32)))) (zh K ((3 : Int32), rf, rs, bad, pr, pn, J) (m, pa, pb, pc, vf, vs, B) w)))))))) ∧ (¬ rv ≤ (0 : Int32) → Q (.inl (some (.int (0 : Int32)))) (zh K (rv, rf, rs, bad, pr, pn, J) (m, pa, pb, pc, vf, vs, B) w)))) : zW zm_170 5 [some (.ref 75), some (.int x1), some (.int (zbi x2)), some (.int x3), some (.int x4), none] [.int rv] p (zh K (code, rf, rs, bad, pr, pn, J) (m, pa, pb, pc, vf, vs, B) w) Q := by
  refine zW_bh (zcmp .le rv (0 : Int32)) 19 12 [some (.ref 75), some (.int x1), some (.int (zbi x2)), some (.int x3), some (.int x4), some (.int rv)] [] 3 (fun f => rfl) (fun c => ?_) (fun c => ?_)
  · have c9 : rv ≤ (0 : Int32) := (of_decide_eq_true c)
    replace H := H.1 c9
    obtain ⟨j1, e_j1, H⟩ := H
    refine zW_gh 25 [some (.ref 75), some (.int x1), some (.int (zbi x2)), some (.int x3), some (.int x4), some (.int rv)] [.int x4, .int x3, .int (zbi x2), .int x1, .ref 75] 5 (fun f => rfl) ?_
    obtain ⟨h2, H⟩ := H
    refine zW_cl rfl rfl rfl rfl rfl ((s171 (c := x2) e_j1) h2 ?_)
    change zW zm_170 28 [some (.ref 75), some (.int x1), some (.int (zbi x2)), some (.int x3), some (.int x4), some (.int rv)] [.int (zbi (zareL m j1 x2 x3 x4))] p _ Q
    refine zW_bh (zcmp .eq (zbi (zareL m j1 x2 x3 x4)) (0 : Int32)) 37 31 [some (.ref 75), some (.int x1), some (.int (zbi x2)), some (.int x3), some (.int x4), some (.int rv)] [] 1 (fun f => rfl) (fun c => ?_) (fun c => ?_)
    · have c9 : (zareL m j1 x2 x3 x4) = false := ((Bool.not_eq_true' _).mp ((zcB_eq _).symm.trans c))
      replace H := H.1 c9
      refine zW_gh 39 [some (.ref 75), some (.int x1), some (.int (zbi x2)), some (.int x3), some (.int x4), some (.int rv)] [.int (3 : Int32), .ref 75] 2 (fun f => rfl) ?_
      refine zW_cl rfl rfl rfl rfl rfl (s142 ?_)
      change zW zm_170 42 [some (.ref 75), some (.int x1), some (.int (zbi x2)), some (.int x3), some (.int x4), some (.int rv)] [.int (0 : Int32)] p _ Q
      exact zW_rh (some (.int (0 : Int32))) 1 (fun f => rfl) H
    · have c9 : (zareL m j1 x2 x3 x4) = true := ((Bool.not_eq_false' _).mp ((zcB_eq _).symm.trans c))
      replace H := H.2 c9
      obtain ⟨k_x3, h_k_x3, e_k_x3⟩ := zareL_i c9
      replace H := H k_x3 h_k_x3 e_k_x3
      subst e_k_x3
      obtain ⟨k_x4, h_k_x4, e_k_x4⟩ := zareL_j c9
      replace H := H k_x4 h_k_x4 e_k_x4
      subst e_k_x4
      refine zW_bh (zcmp .ne (Int32.ofNat k_x3) (Int32.ofNat k_x4)) 43 37 [some (.ref 75), some (.int x1), some (.int (zbi x2)), some (.int (Int32.ofNat k_x3)), some (.int (Int32.ofNat k_x4)), some (.int rv)] [] 3 (fun f => rfl) (fun c => ?_) (fun c => ?_)
      · have c9 : ¬ k_x3 = k_x4 := (by have c := (zcN_ne (a := k_x3) (b := k_x4) rfl rfl h_k_x3 h_k_x4).symm.trans c; simpa using c)
        replace H := H.1 c9
        refine zW_bh (zcmp .eq (zbi x2) (0 : Int32)) 53 49 [some (.ref 75), some (.int x1), some (.int (zbi x2)), some (.int (Int32.ofNat k_x3)), some (.int (Int32.ofNat k_x4)), some (.int rv)] [.int x1, .ref 75] 4 (fun f => rfl) (fun c => ?_) (fun c => ?_)
        · have c9 : x2 = false := ((Bool.not_eq_true' _).mp ((zcB_eq _).symm.trans c))
          replace H := H.1 c9
          refine zW_gh 59 [some (.ref 75), some (.int x1), some (.int (zbi x2)), some (.int (Int32.ofNat k_x3)), some (.int (Int32.ofNat k_x4)), some (.int rv)] [.int (0 : Int32), .int (0 : Int32), .int (Int32.ofNat k_x4), .int (Int32.ofNat k_x3), .int (0 : Int32), .int x1, .ref 75] 5 (fun f => rfl) ?_
          refine zW_fg (L' := [none, none, none, none, none, none]) (zle_n _ (zle_n _ (zle_n _ (zle_n _ (zle_n _ (zle_n _ zle_nil)))))) ?_
          exact zW_cl rfl rfl rfl rfl rfl H
        · have c9 : x2 = true := ((Bool.not_eq_false' _).mp ((zcB_eq _).symm.trans c))
          replace H := H.2 c9
          refine zW_gh 59 [some (.ref 75), some (.int x1), some (.int (zbi x2)), some (.int (Int32.ofNat k_x3)), some (.int (Int32.ofNat k_x4)), some (.int rv)] [.int (0 : Int32), .int (0 : Int32), .int (Int32.ofNat k_x4), .int (Int32.ofNat k_x3), .int (3 : Int32), .int x1, .ref 75] 6 (fun f => rfl) ?_
          refine zW_fg (L' := [none, none, none, none, none, none]) (zle_n _ (zle_n _ (zle_n _ (zle_n _ (zle_n _ (zle_n _ zle_nil)))))) ?_
          exact zW_cl rfl rfl rfl rfl rfl H
      · have c9 : k_x3 = k_x4 := (by have c := (zcN_ne (a := k_x3) (b := k_x4) rfl rfl h_k_x3 h_k_x4).symm.trans c; simpa using c)
        replace H := H.2 c9
        refine zW_gh 39 [some (.ref 75), some (.int x1), some (.int (zbi x2)), some (.int (Int32.ofNat k_x3)), some (.int (Int32.ofNat k_x4)), some (.int rv)] [.int (3 : Int32), .ref 75] 2 (fun f => rfl) ?_
        refine zW_cl rfl rfl rfl rfl rfl (s142 ?_)
        change zW zm_170 42 [some (.ref 75), some (.int x1), some (.int (zbi x2)), some (.int (Int32.ofNat k_x3)), some (.int (Int32.ofNat k_x4)), some (.int rv)] [.int (0 : Int32)] p _ Q
        exact zW_rh (some (.int (0 : Int32))) 1 (fun f => rfl) H
  · have c9 : ¬ rv ≤ (0 : Int32) := (of_decide_eq_false c)
    replace H := H.2 c9
    refine zW_gh 15 [some (.ref 75), some (.int x1), some (.int (zbi x2)), some (.int x3), some (.int x4), some (.int rv)] [.int rv, .ref 75] 2 (fun f => rfl) ?_
    refine zW_cl rfl rfl rfl rfl rfl (s142 ?_)
    change zW zm_170 18 [some (.ref 75), some (.int x1), some (.int (zbi x2)), some (.int x3), some (.int x4), some (.int rv)] [.int (0 : Int32)] p _ Q
    exact zW_rh (some (.int (0 : Int32))) 1 (fun f => rfl) H
theorem b170_62 {K : zKt} {code rf rs pr pn : Int32} {bad : Bool} {J : zJt} {m pa pb pc vf vs : Nat → Int32} {B : zBt} {w : Nat → Int64} {p : Nat × Nat} {Q : zR → zH → Prop} {rv : Int32} (H : Q (.inl (some (.int rv))) (zh K (code, rf, rs, bad, pr, pn, J) (m, pa, pb, pc, vf, vs, B) w)) : zW zm_170 62 [none, none, none, none, none, none] [.int rv] p (zh K (code, rf, rs, bad, pr, pn, J) (m, pa, pb, pc, vf, vs, B) w) Q := by
  exact zW_rh (some (.int rv)) 1 (fun f => rfl) H
theorem b177 {K : zKt} {code rf rs pr pn : Int32} {bad : Bool} {J : zJt} {m pa pb pc vf vs : Nat → Int32} {B : zBt} {w : Nat → Int64} {p : Nat × Nat} {Q : zR → zH → Prop} {a0 a2 a3 a4 a5 : Int32} {a1 : Bool} (H : zT zm_169 [.ref 75, .int a0] p (zh K (code, rf, rs, bad, pr, pn, J) (m, pa, pb, pc, vf, vs, B) w) (zK zm_177 5 [some (.ref 75), some (.int a0), some (.int (zbi a1)), some (.int a2), some (.int a3), some (.int a4), some (.int a5), none] [] p Q)) : zT zm_177 [.ref 75, .int a0, .int (zbi a1), .int a2, .int a3, .int a4, .int a5] p (zh K (code, rf, rs, bad, pr, pn, J) (m, pa, pb, pc, vf, vs, B) w) Q := by
  change zW zm_177 0 [some (.ref 75), some (.int a0), some (.int (zbi a1)), some (.int a2), some (.int a3), some (.int a4), some (.int a5), none] [] p _ Q
  refine zW_gh 2 [some (.ref 75), some (.int a0), some (.int (zbi a1)), some (.int a2), some (.int a3), some (.int a4), some (.int a5), none] [.int a0, .ref 75] 2 (fun f => rfl) ?_
  exact zW_cl rfl rfl rfl rfl rfl H
theorem b177_5 {K : zKt} {code rf rs pr pn : Int32} {bad : Bool} {J : zJt} {m pa pb pc vf vs : Nat → Int32} {B : zBt} {w : Nat → Int64} {p : Nat × Nat} {Q : zR → zH → Prop} {x1 x3 x4 x5 x6 rv : Int32} {x2 : Bool} (H : ((rv ≤ (0 : Int32) → (∃ j1, x1 = Int32.ofNat j1 ∧ (1068 * j1 + 2 < 5340 ∧ (((zareL m j1 x2 x3 x4) = false → Q (.inl (some (.int (0 : Int32)))) (zh K ((3 : Int32), rf, rs, bad, pr, pn, J) (m, pa, pb, pc, vf, vs, B) w)) ∧ ((zareL m j1 x2 x3 x4) = true → ∀ k_x3, k_x3 < 2147483648 → x3 = Int32.ofNat k_x3 → ∀ k_x4, k_x4 < 2147483648 → x4 = Int32.ofNat k_x4 → ((k_x3 = k_x4 → Q (.inl (some (.int (0 : Int32)))) (zh K ((3 : Int32), rf, rs, bad, pr, pn, J) (m, pa, pb, pc, vf, vs, B) w)) ∧ (¬ k_x3 = k_x4 → (∃ j3, (((1068 : Int32) * x1) + (0 : Int32)) = Int32.ofNat j3 ∧ (j3 < 5340 ∧ (((zise (m j3) x5 x6) = true → ((x2 = false → zT zm_172 [.ref 75, .int x1, .int (1 : Int32), .int (Int32.ofNat k_x3), .int (Int32.ofNat k_x4), .int x5, .int x6] p (zh K (code, rf, rs, bad, pr, pn, J) (m, pa, pb, pc, vf, vs, B) w) (zK zm_177 86 [none, none, none, none, none, none, none, none] [] p Q)) ∧ (x2 = true → zT zm_172 [.ref 75, .int x1, .int (4 : Int32), .int (Int32.ofNat k_x3), .int (Int32.ofNat k_x4), .int x5, .int x6] p (zh K (code, rf, rs, bad, pr, pn, J) (m, pa, pb, pc, vf, vs, B) w) (zK zm_177 86 [none, none, none, none, none, none, none, none] [] p Q)))) ∧ ((zise (m j3) x5 x6) = false → Q (.inl (some (.int (0 : Int32)))) (zh K ((3 : Int32), rf, rs, bad, pr, pn, J) (m, pa, pb, pc, vf, vs, B) w)))))))))))) ∧ (¬ rv ≤ (0 : Int32) → Q (.inl (some (.int (0 : Int32)))) (zh K (rv, rf, rs, bad, pr, pn, J) (m, pa, pb, pc, vf, vs, B) w)))) : zW zm_177 5 [some (.ref 75), some (.int x1), some (.int (zbi x2)), some (.int x3), some (.int x4), some (.int x5), some (.int x6), none] [.int rv] p (zh K (code, rf, rs, bad, pr, pn, J) (m, pa, pb, pc, vf, vs, B) w) Q := by
  refine zW_bh (zcmp .le rv (0 : Int32)) 19 12 [some (.ref 75), some (.int x1), some (.int (zbi x2)), some (.int x3), some (.int x4), some (.int x5), some (.int x6), some (.int rv)] [] 3 (fun f => rfl) (fun c => ?_) (fun c => ?_)
  · have c9 : rv ≤ (0 : Int32) := (of_decide_eq_true c)
    replace H := H.1 c9
    obtain ⟨j1, e_j1, H⟩ := H
    refine zW_gh 25 [some (.ref 75), some (.int x1), some (.int (zbi x2)), some (.int x3), some (.int x4), some (.int x5), some (.int x6), some (.int rv)] [.int x4, .int x3, .int (zbi x2), .int x1, .ref 75] 5 (fun f => rfl) ?_
    obtain ⟨h2, H⟩ := H
    refine zW_cl rfl rfl rfl rfl rfl ((s171 (c := x2) e_j1) h2 ?_)
    change zW zm_177 28 [some (.ref 75), some (.int x1), some (.int (zbi x2)), some (.int x3), some (.int x4), some (.int x5), some (.int x6), some (.int rv)] [.int (zbi (zareL m j1 x2 x3 x4))] p _ Q
    refine zW_bh (zcmp .eq (zbi (zareL m j1 x2 x3 x4)) (0 : Int32)) 59 31 [some (.ref 75), some (.int x1), some (.int (zbi x2)), some (.int x3), some (.int x4), some (.int x5), some (.int x6), some (.int rv)] [] 1 (fun f => rfl) (fun c => ?_) (fun c => ?_)
    · have c9 : (zareL m j1 x2 x3 x4) = false := ((Bool.not_eq_true' _).mp ((zcB_eq _).symm.trans c))
      replace H := H.1 c9
      refine zW_gh 61 [some (.ref 75), some (.int x1), some (.int (zbi x2)), some (.int x3), some (.int x4), some (.int x5), some (.int x6), some (.int rv)] [.int (3 : Int32), .ref 75] 2 (fun f => rfl) ?_
      refine zW_cl rfl rfl rfl rfl rfl (s142 ?_)
      change zW zm_177 64 [some (.ref 75), some (.int x1), some (.int (zbi x2)), some (.int x3), some (.int x4), some (.int x5), some (.int x6), some (.int rv)] [.int (0 : Int32)] p _ Q
      exact zW_rh (some (.int (0 : Int32))) 1 (fun f => rfl) H
    · have c9 : (zareL m j1 x2 x3 x4) = true := ((Bool.not_eq_false' _).mp ((zcB_eq _).symm.trans c))
      replace H := H.2 c9
      obtain ⟨k_x3, h_k_x3, e_k_x3⟩ := zareL_i c9
      replace H := H k_x3 h_k_x3 e_k_x3
      subst e_k_x3
      obtain ⟨k_x4, h_k_x4, e_k_x4⟩ := zareL_j c9
      replace H := H k_x4 h_k_x4 e_k_x4
      subst e_k_x4
      refine zW_bh (zcmp .eq (Int32.ofNat k_x3) (Int32.ofNat k_x4)) 59 37 [some (.ref 75), some (.int x1), some (.int (zbi x2)), some (.int (Int32.ofNat k_x3)), some (.int (Int32.ofNat k_x4)), some (.int x5), some (.int x6), some (.int rv)] [] 3 (fun f => rfl) (fun c => ?_) (fun c => ?_)
      · have c9 : k_x3 = k_x4 := (of_decide_eq_true ((zcN_eq (a := k_x3) (b := k_x4) rfl rfl h_k_x3 h_k_x4).symm.trans c))
        replace H := H.1 c9
        refine zW_gh 61 [some (.ref 75), some (.int x1), some (.int (zbi x2)), some (.int (Int32.ofNat k_x3)), some (.int (Int32.ofNat k_x4)), some (.int x5), some (.int x6), some (.int rv)] [.int (3 : Int32), .ref 75] 2 (fun f => rfl) ?_
        refine zW_cl rfl rfl rfl rfl rfl (s142 ?_)
        change zW zm_177 64 [some (.ref 75), some (.int x1), some (.int (zbi x2)), some (.int (Int32.ofNat k_x3)), some (.int (Int32.ofNat k_x4)), some (.int x5), some (.int x6), some (.int rv)] [.int (0 : Int32)] p _ Q
        exact zW_rh (some (.int (0 : Int32))) 1 (fun f => rfl) H
      · have c9 : ¬ k_x3 = k_x4 := (of_decide_eq_false ((zcN_eq (a := k_x3) (b := k_x4) rfl rfl h_k_x3 h_k_x4).symm.trans c))
        replace H := H.2 c9
        refine zW_gh 48 [some (.ref 75), some (.int x1), some (.int (zbi x2)), some (.int (Int32.ofNat k_x3)), some (.int (Int32.ofNat k_x4)), some (.int x5), some (.int x6), some (.int rv)] [.int (((1068 : Int32) * x1) + (0 : Int32)), .ref 76] 7 (fun f => rfl) ?_
        obtain ⟨j3, e_j3, H⟩ := H
        obtain ⟨h4, H⟩ := H
        refine zW_iald rfl (by decide) rfl (by decide) e_j3 h4 ?_
        refine zW_gh 53 [some (.ref 75), some (.int x1), some (.int (zbi x2)), some (.int (Int32.ofNat k_x3)), some (.int (Int32.ofNat k_x4)), some (.int x5), some (.int x6), some (.int rv)] [.int x6, .int x5, .int (m j3)] 2 (fun f => rfl) ?_
        refine zW_cl rfl rfl rfl rfl rfl (s149 ?_)
        change zW zm_177 56 [some (.ref 75), some (.int x1), some (.int (zbi x2)), some (.int (Int32.ofNat k_x3)), some (.int (Int32.ofNat k_x4)), some (.int x5), some (.int x6), some (.int rv)] [.int (zbi (zise (m j3) x5 x6))] p _ Q
        refine zW_bh (zcmp .ne (zbi (zise (m j3) x5 x6)) (0 : Int32)) 65 59 [some (.ref 75), some (.int x1), some (.int (zbi x2)), some (.int (Int32.ofNat k_x3)), some (.int (Int32.ofNat k_x4)), some (.int x5), some (.int x6), some (.int rv)] [] 1 (fun f => rfl) (fun c => ?_) (fun c => ?_)
        · have c9 : (zise (m j3) x5 x6) = true := ((zcB_ne _).symm.trans c)
          replace H := H.1 c9
          refine zW_bh (zcmp .eq (zbi x2) (0 : Int32)) 75 71 [some (.ref 75), some (.int x1), some (.int (zbi x2)), some (.int (Int32.ofNat k_x3)), some (.int (Int32.ofNat k_x4)), some (.int x5), some (.int x6), some (.int rv)] [.int x1, .ref 75] 4 (fun f => rfl) (fun c => ?_) (fun c => ?_)
          · have c9 : x2 = false := ((Bool.not_eq_true' _).mp ((zcB_eq _).symm.trans c))
            replace H := H.1 c9
            refine zW_gh 83 [some (.ref 75), some (.int x1), some (.int (zbi x2)), some (.int (Int32.ofNat k_x3)), some (.int (Int32.ofNat k_x4)), some (.int x5), some (.int x6), some (.int rv)] [.int x6, .int x5, .int (Int32.ofNat k_x4), .int (Int32.ofNat k_x3), .int (1 : Int32), .int x1, .ref 75] 5 (fun f => rfl) ?_
            refine zW_fg (L' := [none, none, none, none, none, none, none, none]) (zle_n _ (zle_n _ (zle_n _ (zle_n _ (zle_n _ (zle_n _ (zle_n _ (zle_n _ zle_nil)))))))) ?_
            exact zW_cl rfl rfl rfl rfl rfl H
          · have c9 : x2 = true := ((Bool.not_eq_false' _).mp ((zcB_eq _).symm.trans c))
            replace H := H.2 c9
            refine zW_gh 83 [some (.ref 75), some (.int x1), some (.int (zbi x2)), some (.int (Int32.ofNat k_x3)), some (.int (Int32.ofNat k_x4)), some (.int x5), some (.int x6), some (.int rv)] [.int x6, .int x5, .int (Int32.ofNat k_x4), .int (Int32.ofNat k_x3), .int (4 : Int32), .int x1, .ref 75] 6 (fun f => rfl) ?_
            refine zW_fg (L' := [none, none, none, none, none, none, none, none]) (zle_n _ (zle_n _ (zle_n _ (zle_n _ (zle_n _ (zle_n _ (zle_n _ (zle_n _ zle_nil)))))))) ?_
            exact zW_cl rfl rfl rfl rfl rfl H
        · have c9 : (zise (m j3) x5 x6) = false := ((zcB_ne _).symm.trans c)
          replace H := H.2 c9
          refine zW_gh 61 [some (.ref 75), some (.int x1), some (.int (zbi x2)), some (.int (Int32.ofNat k_x3)), some (.int (Int32.ofNat k_x4)), some (.int x5), some (.int x6), some (.int rv)] [.int (3 : Int32), .ref 75] 2 (fun f => rfl) ?_
          refine zW_cl rfl rfl rfl rfl rfl (s142 ?_)
          change zW zm_177 64 [some (.ref 75), some (.int x1), some (.int (zbi x2)), some (.int (Int32.ofNat k_x3)), some (.int (Int32.ofNat k_x4)), some (.int x5), some (.int x6), some (.int rv)] [.int (0 : Int32)] p _ Q
          exact zW_rh (some (.int (0 : Int32))) 1 (fun f => rfl) H
  · have c9 : ¬ rv ≤ (0 : Int32) := (of_decide_eq_false c)
    replace H := H.2 c9
    refine zW_gh 15 [some (.ref 75), some (.int x1), some (.int (zbi x2)), some (.int x3), some (.int x4), some (.int x5), some (.int x6), some (.int rv)] [.int rv, .ref 75] 2 (fun f => rfl) ?_
    refine zW_cl rfl rfl rfl rfl rfl (s142 ?_)
    change zW zm_177 18 [some (.ref 75), some (.int x1), some (.int (zbi x2)), some (.int x3), some (.int x4), some (.int x5), some (.int x6), some (.int rv)] [.int (0 : Int32)] p _ Q
    exact zW_rh (some (.int (0 : Int32))) 1 (fun f => rfl) H
theorem b177_86 {K : zKt} {code rf rs pr pn : Int32} {bad : Bool} {J : zJt} {m pa pb pc vf vs : Nat → Int32} {B : zBt} {w : Nat → Int64} {p : Nat × Nat} {Q : zR → zH → Prop} {rv : Int32} (H : Q (.inl (some (.int rv))) (zh K (code, rf, rs, bad, pr, pn, J) (m, pa, pb, pc, vf, vs, B) w)) : zW zm_177 86 [none, none, none, none, none, none, none, none] [.int rv] p (zh K (code, rf, rs, bad, pr, pn, J) (m, pa, pb, pc, vf, vs, B) w) Q := by
  exact zW_rh (some (.int rv)) 1 (fun f => rfl) H
theorem b178 {K : zKt} {code rf rs pr pn : Int32} {bad : Bool} {J : zJt} {m pa pb pc vf vs : Nat → Int32} {B : zBt} {w : Nat → Int64} {p : Nat × Nat} {Q : zR → zH → Prop} {a0 a2 a3 a4 : Int32} {a1 : Bool} (H : zT zm_169 [.ref 75, .int a0] p (zh K (code, rf, rs, bad, pr, pn, J) (m, pa, pb, pc, vf, vs, B) w) (zK zm_178 5 [some (.ref 75), some (.int a0), some (.int (zbi a1)), some (.int a2), some (.int a3), some (.int a4), none] [] p Q)) : zT zm_178 [.ref 75, .int a0, .int (zbi a1), .int a2, .int a3, .int a4] p (zh K (code, rf, rs, bad, pr, pn, J) (m, pa, pb, pc, vf, vs, B) w) Q := by
  change zW zm_178 0 [some (.ref 75), some (.int a0), some (.int (zbi a1)), some (.int a2), some (.int a3), some (.int a4), none] [] p _ Q
  refine zW_gh 2 [some (.ref 75), some (.int a0), some (.int (zbi a1)), some (.int a2), some (.int a3), some (.int a4), none] [.int a0, .ref 75] 2 (fun f => rfl) ?_
  exact zW_cl rfl rfl rfl rfl rfl H
theorem b178_5 {K : zKt} {code rf rs pr pn : Int32} {bad : Bool} {J : zJt} {m pa pb pc vf vs : Nat → Int32} {B : zBt} {w : Nat → Int64} {p : Nat × Nat} {Q : zR → zH → Prop} {x1 x3 x4 x5 rv : Int32} {x2 : Bool} (H : ((rv ≤ (0 : Int32) → (∃ j1, x1 = Int32.ofNat j1 ∧ (1068 * j1 + 2 < 5340 ∧ (((zareL m j1 x2 x3 x3) = false → Q (.inl (some (.int (0 : Int32)))) (zh K ((3 : Int32), rf, rs, bad, pr, pn, J) (m, pa, pb, pc, vf, vs, B) w)) ∧ ((zareL m j1 x2 x3 x3) = true → ∀ k_x3, k_x3 < 2147483648 → x3 = Int32.ofNat k_x3 → (∃ j3, (((1068 : Int32) * x1) + (0 : Int32)) = Int32.ofNat j3 ∧ (j3 < 5340 ∧ (((zisu (m j3) x4 x5) = true → ((x2 = false → zT zm_172 [.ref 75, .int x1, .int (2 : Int32), .int (Int32.ofNat k_x3), .int (Int32.ofNat k_x3), .int x4, .int x5] p (zh K (code, rf, rs, bad, pr, pn, J) (m, pa, pb, pc, vf, vs, B) w) (zK zm_178 78 [none, none, none, none, none, none, none] [] p Q)) ∧ (x2 = true → zT zm_172 [.ref 75, .int x1, .int (5 : Int32), .int (Int32.ofNat k_x3), .int (Int32.ofNat k_x3), .int x4, .int x5] p (zh K (code, rf, rs, bad, pr, pn, J) (m, pa, pb, pc, vf, vs, B) w) (zK zm_178 78 [none, none, none, none, none, none, none] [] p Q)))) ∧ ((zisu (m j3) x4 x5) = false → Q (.inl (some (.int (0 : Int32)))) (zh K ((3 : Int32), rf, rs, bad, pr, pn, J) (m, pa, pb, pc, vf, vs, B) w)))))))))) ∧ (¬ rv ≤ (0 : Int32) → Q (.inl (some (.int (0 : Int32)))) (zh K (rv, rf, rs, bad, pr, pn, J) (m, pa, pb, pc, vf, vs, B) w)))) : zW zm_178 5 [some (.ref 75), some (.int x1), some (.int (zbi x2)), some (.int x3), some (.int x4), some (.int x5), none] [.int rv] p (zh K (code, rf, rs, bad, pr, pn, J) (m, pa, pb, pc, vf, vs, B) w) Q := by
  refine zW_bh (zcmp .le rv (0 : Int32)) 19 12 [some (.ref 75), some (.int x1), some (.int (zbi x2)), some (.int x3), some (.int x4), some (.int x5), some (.int rv)] [] 3 (fun f => rfl) (fun c => ?_) (fun c => ?_)
  · have c9 : rv ≤ (0 : Int32) := (of_decide_eq_true c)
    replace H := H.1 c9
    obtain ⟨j1, e_j1, H⟩ := H
    refine zW_gh 24 [some (.ref 75), some (.int x1), some (.int (zbi x2)), some (.int x3), some (.int x4), some (.int x5), some (.int rv)] [.int x3, .int x3, .int (zbi x2), .int x1, .ref 75] 5 (fun f => rfl) ?_
    obtain ⟨h2, H⟩ := H
    refine zW_cl rfl rfl rfl rfl rfl ((s171 (c := x2) e_j1) h2 ?_)
    change zW zm_178 27 [some (.ref 75), some (.int x1), some (.int (zbi x2)), some (.int x3), some (.int x4), some (.int x5), some (.int rv)] [.int (zbi (zareL m j1 x2 x3 x3))] p _ Q
    refine zW_bh (zcmp .eq (zbi (zareL m j1 x2 x3 x3)) (0 : Int32)) 52 30 [some (.ref 75), some (.int x1), some (.int (zbi x2)), some (.int x3), some (.int x4), some (.int x5), some (.int rv)] [] 1 (fun f => rfl) (fun c => ?_) (fun c => ?_)
    · have c9 : (zareL m j1 x2 x3 x3) = false := ((Bool.not_eq_true' _).mp ((zcB_eq _).symm.trans c))
      replace H := H.1 c9
      refine zW_gh 54 [some (.ref 75), some (.int x1), some (.int (zbi x2)), some (.int x3), some (.int x4), some (.int x5), some (.int rv)] [.int (3 : Int32), .ref 75] 2 (fun f => rfl) ?_
      refine zW_cl rfl rfl rfl rfl rfl (s142 ?_)
      change zW zm_178 57 [some (.ref 75), some (.int x1), some (.int (zbi x2)), some (.int x3), some (.int x4), some (.int x5), some (.int rv)] [.int (0 : Int32)] p _ Q
      exact zW_rh (some (.int (0 : Int32))) 1 (fun f => rfl) H
    · have c9 : (zareL m j1 x2 x3 x3) = true := ((Bool.not_eq_false' _).mp ((zcB_eq _).symm.trans c))
      replace H := H.2 c9
      obtain ⟨k_x3, h_k_x3, e_k_x3⟩ := zareL_i c9
      replace H := H k_x3 h_k_x3 e_k_x3
      subst e_k_x3
      refine zW_gh 41 [some (.ref 75), some (.int x1), some (.int (zbi x2)), some (.int (Int32.ofNat k_x3)), some (.int x4), some (.int x5), some (.int rv)] [.int (((1068 : Int32) * x1) + (0 : Int32)), .ref 76] 7 (fun f => rfl) ?_
      obtain ⟨j3, e_j3, H⟩ := H
      obtain ⟨h4, H⟩ := H
      refine zW_iald rfl (by decide) rfl (by decide) e_j3 h4 ?_
      refine zW_gh 46 [some (.ref 75), some (.int x1), some (.int (zbi x2)), some (.int (Int32.ofNat k_x3)), some (.int x4), some (.int x5), some (.int rv)] [.int x5, .int x4, .int (m j3)] 2 (fun f => rfl) ?_
      refine zW_cl rfl rfl rfl rfl rfl (s179 ?_)
      change zW zm_178 49 [some (.ref 75), some (.int x1), some (.int (zbi x2)), some (.int (Int32.ofNat k_x3)), some (.int x4), some (.int x5), some (.int rv)] [.int (zbi (zisu (m j3) x4 x5))] p _ Q
      refine zW_bh (zcmp .ne (zbi (zisu (m j3) x4 x5)) (0 : Int32)) 58 52 [some (.ref 75), some (.int x1), some (.int (zbi x2)), some (.int (Int32.ofNat k_x3)), some (.int x4), some (.int x5), some (.int rv)] [] 1 (fun f => rfl) (fun c => ?_) (fun c => ?_)
      · have c9 : (zisu (m j3) x4 x5) = true := ((zcB_ne _).symm.trans c)
        replace H := H.1 c9
        refine zW_bh (zcmp .eq (zbi x2) (0 : Int32)) 68 64 [some (.ref 75), some (.int x1), some (.int (zbi x2)), some (.int (Int32.ofNat k_x3)), some (.int x4), some (.int x5), some (.int rv)] [.int x1, .ref 75] 4 (fun f => rfl) (fun c => ?_) (fun c => ?_)
        · have c9 : x2 = false := ((Bool.not_eq_true' _).mp ((zcB_eq _).symm.trans c))
          replace H := H.1 c9
          refine zW_gh 75 [some (.ref 75), some (.int x1), some (.int (zbi x2)), some (.int (Int32.ofNat k_x3)), some (.int x4), some (.int x5), some (.int rv)] [.int x5, .int x4, .int (Int32.ofNat k_x3), .int (Int32.ofNat k_x3), .int (2 : Int32), .int x1, .ref 75] 5 (fun f => rfl) ?_
          refine zW_fg (L' := [none, none, none, none, none, none, none]) (zle_n _ (zle_n _ (zle_n _ (zle_n _ (zle_n _ (zle_n _ (zle_n _ zle_nil))))))) ?_
          exact zW_cl rfl rfl rfl rfl rfl H
        · have c9 : x2 = true := ((Bool.not_eq_false' _).mp ((zcB_eq _).symm.trans c))
          replace H := H.2 c9
          refine zW_gh 75 [some (.ref 75), some (.int x1), some (.int (zbi x2)), some (.int (Int32.ofNat k_x3)), some (.int x4), some (.int x5), some (.int rv)] [.int x5, .int x4, .int (Int32.ofNat k_x3), .int (Int32.ofNat k_x3), .int (5 : Int32), .int x1, .ref 75] 6 (fun f => rfl) ?_
          refine zW_fg (L' := [none, none, none, none, none, none, none]) (zle_n _ (zle_n _ (zle_n _ (zle_n _ (zle_n _ (zle_n _ (zle_n _ zle_nil))))))) ?_
          exact zW_cl rfl rfl rfl rfl rfl H
      · have c9 : (zisu (m j3) x4 x5) = false := ((zcB_ne _).symm.trans c)
        replace H := H.2 c9
        refine zW_gh 54 [some (.ref 75), some (.int x1), some (.int (zbi x2)), some (.int (Int32.ofNat k_x3)), some (.int x4), some (.int x5), some (.int rv)] [.int (3 : Int32), .ref 75] 2 (fun f => rfl) ?_
        refine zW_cl rfl rfl rfl rfl rfl (s142 ?_)
        change zW zm_178 57 [some (.ref 75), some (.int x1), some (.int (zbi x2)), some (.int (Int32.ofNat k_x3)), some (.int x4), some (.int x5), some (.int rv)] [.int (0 : Int32)] p _ Q
        exact zW_rh (some (.int (0 : Int32))) 1 (fun f => rfl) H
  · have c9 : ¬ rv ≤ (0 : Int32) := (of_decide_eq_false c)
    replace H := H.2 c9
    refine zW_gh 15 [some (.ref 75), some (.int x1), some (.int (zbi x2)), some (.int x3), some (.int x4), some (.int x5), some (.int rv)] [.int rv, .ref 75] 2 (fun f => rfl) ?_
    refine zW_cl rfl rfl rfl rfl rfl (s142 ?_)
    change zW zm_178 18 [some (.ref 75), some (.int x1), some (.int (zbi x2)), some (.int x3), some (.int x4), some (.int x5), some (.int rv)] [.int (0 : Int32)] p _ Q
    exact zW_rh (some (.int (0 : Int32))) 1 (fun f => rfl) H
theorem b178_78 {K : zKt} {code rf rs pr pn : Int32} {bad : Bool} {J : zJt} {m pa pb pc vf vs : Nat → Int32} {B : zBt} {w : Nat → Int64} {p : Nat × Nat} {Q : zR → zH → Prop} {rv : Int32} (H : Q (.inl (some (.int rv))) (zh K (code, rf, rs, bad, pr, pn, J) (m, pa, pb, pc, vf, vs, B) w)) : zW zm_178 78 [none, none, none, none, none, none, none] [.int rv] p (zh K (code, rf, rs, bad, pr, pn, J) (m, pa, pb, pc, vf, vs, B) w) Q := by
  exact zW_rh (some (.int rv)) 1 (fun f => rfl) H
theorem b180 {K : zKt} {code rf rs pr pn : Int32} {bad : Bool} {J : zJt} {m pa pb pc vf vs : Nat → Int32} {B : zBt} {w : Nat → Int64} {p : Nat × Nat} {Q : zR → zH → Prop} {a0 : Int32} (H : zT zm_169 [.ref 75, .int a0] p (zh K (code, rf, rs, bad, pr, pn, J) (m, pa, pb, pc, vf, vs, B) w) (zK zm_180 5 [some (.ref 75), some (.int a0), none, none] [] p Q)) : zT zm_180 [.ref 75, .int a0] p (zh K (code, rf, rs, bad, pr, pn, J) (m, pa, pb, pc, vf, vs, B) w) Q := by
  change zW zm_180 0 [some (.ref 75), some (.int a0), none, none] [] p _ Q
  refine zW_gh 2 [some (.ref 75), some (.int a0), none, none] [.int a0, .ref 75] 2 (fun f => rfl) ?_
  exact zW_cl rfl rfl rfl rfl rfl H
theorem b180_5 {K : zKt} {code rf rs pr pn : Int32} {bad : Bool} {J : zJt} {m pa pb pc vf vs : Nat → Int32} {B : zBt} {w : Nat → Int64} {p : Nat × Nat} {Q : zR → zH → Prop} {x1 rv : Int32} (H : ((rv ≤ (0 : Int32) → (∃ j1, (((1068 : Int32) * x1) + (3 : Int32)) = Int32.ofNat j1 ∧ (j1 < 5340 ∧ ((¬ (m j1) = (0 : Int32) → zT zm_181 [.ref 75, .int ((1068 : Int32) * x1), .int ((va_up m j1 ((m j1) - (1 : Int32))) j1)] p (zh K (code, rf, rs, false, pr, pn, J) ((va_up m j1 ((m j1) - (1 : Int32))), pa, pb, pc, vf, vs, B) w) (zK zm_180 69 [some (.ref 75), none, none, some (.int ((1068 : Int32) * x1))] [] p Q)) ∧ ((m j1) = (0 : Int32) → Q (.inl (some (.int (0 : Int32)))) (zh K ((2 : Int32), rf, rs, bad, pr, pn, J) (m, pa, pb, pc, vf, vs, B) w)))))) ∧ (¬ rv ≤ (0 : Int32) → Q (.inl (some (.int (0 : Int32)))) (zh K (rv, rf, rs, bad, pr, pn, J) (m, pa, pb, pc, vf, vs, B) w)))) : zW zm_180 5 [some (.ref 75), some (.int x1), none, none] [.int rv] p (zh K (code, rf, rs, bad, pr, pn, J) (m, pa, pb, pc, vf, vs, B) w) Q := by
  refine zW_bh (zcmp .le rv (0 : Int32)) 16 10 [some (.ref 75), some (.int x1), some (.int rv), none] [] 3 (fun f => rfl) (fun c => ?_) (fun c => ?_)
  · have c9 : rv ≤ (0 : Int32) := (of_decide_eq_true c)
    replace H := H.1 c9
    refine zW_gh 29 [some (.ref 75), some (.int x1), some (.int rv), some (.int ((1068 : Int32) * x1))] [.int (((1068 : Int32) * x1) + (3 : Int32)), .ref 76] 9 (fun f => rfl) ?_
    obtain ⟨j1, e_j1, H⟩ := H
    obtain ⟨h2, H⟩ := H
    refine zW_iald rfl (by decide) rfl (by decide) e_j1 h2 ?_
    refine zW_bh (zcmp .ne (m j1) (0 : Int32)) 39 33 [some (.ref 75), some (.int x1), some (.int rv), some (.int ((1068 : Int32) * x1))] [] 1 (fun f => rfl) (fun c => ?_) (fun c => ?_)
    · have c9 : ¬ (m j1) = (0 : Int32) := (by simpa [zcmp] using c)
      replace H := H.1 c9
      refine zW_gh 41 [some (.ref 75), some (.int x1), some (.int rv), some (.int ((1068 : Int32) * x1))] [.int (0 : Int32), .ref 75] 2 (fun f => rfl) ?_
      refine zW_go (pc' := 44) (L' := [some (.ref 75), some (.int x1), some (.int rv), some (.int ((1068 : Int32) * x1))]) (st' := []) (h' := (va_up (zh K (code, rf, rs, bad, pr, pn, J) (m, pa, pb, pc, vf, vs, B) w) 75 (.inr (7, zfl (code, rf, rs, false, pr, pn, J))))) 1 (fun f => rfl) ?_
      refine zW_eq zu_75 ?_
      refine zW_gh 52 [some (.ref 75), some (.int x1), some (.int rv), some (.int ((1068 : Int32) * x1))] [.int (((1068 : Int32) * x1) + (3 : Int32)), .ref 76, .int (((1068 : Int32) * x1) + (3 : Int32)), .ref 76] 6 (fun f => rfl) ?_
      refine zW_iald rfl (by decide) rfl (by decide) e_j1 h2 ?_
      refine zW_gh 55 [some (.ref 75), some (.int x1), some (.int rv), some (.int ((1068 : Int32) * x1))] [.int ((m j1) - (1 : Int32)), .int (((1068 : Int32) * x1) + (3 : Int32)), .ref 76] 2 (fun f => rfl) ?_
      refine zW_iast rfl (by decide) rfl (by decide) zu_76 e_j1 h2 ?_
      refine zW_gh 65 [some (.ref 75), some (.int x1), some (.int rv), some (.int ((1068 : Int32) * x1))] [.int (((1068 : Int32) * x1) + (3 : Int32)), .ref 76, .int ((1068 : Int32) * x1), .ref 75] 7 (fun f => rfl) ?_
      refine zW_iald rfl (by decide) rfl (by decide) e_j1 h2 ?_
      refine zW_fg (L' := [some (.ref 75), none, none, some (.int ((1068 : Int32) * x1))]) (zle_s _ (zle_n _ (zle_n _ (zle_s _ zle_nil)))) ?_
      exact zW_cl rfl rfl rfl rfl rfl H
    · have c9 : (m j1) = (0 : Int32) := (by simpa [zcmp] using c)
      replace H := H.2 c9
      refine zW_gh 35 [some (.ref 75), some (.int x1), some (.int rv), some (.int ((1068 : Int32) * x1))] [.int (2 : Int32), .ref 75] 2 (fun f => rfl) ?_
      refine zW_cl rfl rfl rfl rfl rfl (s142 ?_)
      change zW zm_180 38 [some (.ref 75), some (.int x1), some (.int rv), some (.int ((1068 : Int32) * x1))] [.int (0 : Int32)] p _ Q
      exact zW_rh (some (.int (0 : Int32))) 1 (fun f => rfl) H
  · have c9 : ¬ rv ≤ (0 : Int32) := (of_decide_eq_false c)
    replace H := H.2 c9
    refine zW_gh 12 [some (.ref 75), some (.int x1), some (.int rv), none] [.int rv, .ref 75] 2 (fun f => rfl) ?_
    refine zW_cl rfl rfl rfl rfl rfl (s142 ?_)
    change zW zm_180 15 [some (.ref 75), some (.int x1), some (.int rv), none] [.int (0 : Int32)] p _ Q
    exact zW_rh (some (.int (0 : Int32))) 1 (fun f => rfl) H
theorem b180_69 {K : zKt} {code rf rs pr pn : Int32} {bad : Bool} {J : zJt} {m pa pb pc vf vs : Nat → Int32} {B : zBt} {w : Nat → Int64} {p : Nat × Nat} {Q : zR → zH → Prop} {x3 : Int32} (H : (∃ j1, (x3 + (3 : Int32)) = Int32.ofNat j1 ∧ (j1 < 5340 ∧ Q (.inl (some (.int (m j1)))) (zh K (code, rf, rs, bad, pr, pn, J) (m, pa, pb, pc, vf, vs, B) w)))) : zW zm_180 69 [some (.ref 75), none, none, some (.int x3)] [] p (zh K (code, rf, rs, bad, pr, pn, J) (m, pa, pb, pc, vf, vs, B) w) Q := by
  refine zW_gh 76 [some (.ref 75), none, none, some (.int x3)] [.int (x3 + (3 : Int32)), .ref 76] 5 (fun f => rfl) ?_
  obtain ⟨j1, e_j1, H⟩ := H
  obtain ⟨h2, H⟩ := H
  refine zW_iald rfl (by decide) rfl (by decide) e_j1 h2 ?_
  exact zW_rh (some (.int (m j1))) 1 (fun f => rfl) H
set_option maxRecDepth 20000 in
theorem b182 {K : zKt} {code rf rs pr pn : Int32} {bad : Bool} {J : zJt} {m pa pb pc vf vs : Nat → Int32} {B : zBt} {w : Nat → Int64} {p : Nat × Nat} {Q : zR → zH → Prop} {a0 a1 : Int32} {a2 : Bool} (H : (((zslot a0) = false → Q (.inl (some (.int (0 : Int32)))) (zh K ((1 : Int32), rf, rs, bad, pr, pn, J) (m, pa, pb, pc, vf, vs, B) w)) ∧ ((zslot a0) = true → ∀ k_a0, k_a0 < 3 → a0 = Int32.ofNat k_a0 → (((zslot a1) = true → ∀ k_a1, k_a1 < 3 → a1 = Int32.ofNat k_a1 → ((a2 = false → (1068 * k_a0 < 5340 ∧ (((decide (m (1068 * k_a0) = -1)) = true → Q (.inl (some (.int (0 : Int32)))) (zh K ((2 : Int32), rf, rs, bad, pr, pn, J) (m, pa, pb, pc, vf, vs, B) w)) ∧ ((decide (m (1068 * k_a0) = -1)) = false → (1068 * k_a1 < 5340 ∧ (((decide (m (1068 * k_a1) = -1)) = true → Q (.inl (some (.int (0 : Int32)))) (zh K ((2 : Int32), rf, rs, bad, pr, pn, J) (m, pa, pb, pc, vf, vs, B) w)) ∧ ((decide (m (1068 * k_a1) = -1)) = false → ((k_a0 = k_a1 → Q (.inl (some (.int (0 : Int32)))) (zh K ((2 : Int32), rf, rs, bad, pr, pn, J) (m, pa, pb, pc, vf, vs, B) w)) ∧ (¬ k_a0 = k_a1 → (((1068 * k_a0) + 0) < 5340 ∧ (((1068 * k_a1) + 0) < 5340 ∧ ((¬ (m ((1068 * k_a0) + 0)) = (m ((1068 * k_a1) + 0)) → Q (.inl (some (.int (0 : Int32)))) (zh K ((2 : Int32), rf, rs, bad, pr, pn, J) (m, pa, pb, pc, vf, vs, B) w)) ∧ ((m ((1068 * k_a0) + 0)) = (m ((1068 * k_a1) + 0)) → (((1068 * k_a0) + 1) < 5340 ∧ (((1068 * k_a1) + 1) < 5340 ∧ (((m ((1068 * k_a0) + 1)) = (m ((1068 * k_a1) + 1)) → zT zm_173 [.ref 75, .int (Int32.ofNat k_a1)] p (zh K ((0 : Int32), rf, rs, bad, pr, pn, J) (m, pa, pb, pc, vf, vs, B) w) (zK zm_182 126 [some (.ref 75), none, some (.int (Int32.ofNat k_a1)), some (.int (zbi a2)), some (.int (Int32.ofNat (1068 * k_a0))), none, none, none, none, none] [] p Q)) ∧ (¬ (m ((1068 * k_a0) + 1)) = (m ((1068 * k_a1) + 1)) → Q (.inl (some (.int (0 : Int32)))) (zh K ((2 : Int32), rf, rs, bad, pr, pn, J) (m, pa, pb, pc, vf, vs, B) w)))))))))))))))))) ∧ (a2 = true → (1068 * k_a0 < 5340 ∧ (((decide (m (1068 * k_a0) = -1)) = true → Q (.inl (some (.int (0 : Int32)))) (zh K ((2 : Int32), rf, rs, bad, pr, pn, J) (m, pa, pb, pc, vf, vs, B) w)) ∧ ((decide (m (1068 * k_a0) = -1)) = false → (1068 * k_a1 < 5340 ∧ (((decide (m (1068 * k_a1) = -1)) = true → Q (.inl (some (.int (0 : Int32)))) (zh K ((2 : Int32), rf, rs, bad, pr, pn, J) (m, pa, pb, pc, vf, vs, B) w)) ∧ ((decide (m (1068 * k_a1) = -1)) = false → ((k_a0 = k_a1 → Q (.inl (some (.int (0 : Int32)))) (zh K ((2 : Int32), rf, rs, bad, pr, pn, J) (m, pa, pb, pc, vf, vs, B) w)) ∧ (¬ k_a0 = k_a1 → (((1068 * k_a0) + 0) < 5340 ∧ (((1068 * k_a1) + 0) < 5340 ∧ ((¬ (m ((1068 * k_a0) + 0)) = (m ((1068 * k_a1) + 0)) → Q (.inl (some (.int (0 : Int32)))) (zh K ((2 : Int32), rf, rs, bad, pr, pn, J) (m, pa, pb, pc, vf, vs, B) w)) ∧ ((m ((1068 * k_a0) + 0)) = (m ((1068 * k_a1) + 0)) → (((1068 * k_a0) + 2) < 5340 ∧ (((1068 * k_a1) + 2) < 5340 ∧ (((m ((1068 * k_a0) + 2)) = (m ((1068 * k_a1) + 2)) → zT zm_173 [.ref 75, .int (Int32.ofNat k_a1)] p (zh K ((0 : Int32), rf, rs, bad, pr, pn, J) (m, pa, pb, pc, vf, vs, B) w) (zK zm_182 126 [some (.ref 75), none, some (.int (Int32.ofNat k_a1)), some (.int (zbi a2)), some (.int (Int32.ofNat (1068 * k_a0))), none, none, none, none, none] [] p Q)) ∧ (¬ (m ((1068 * k_a0) + 2)) = (m ((1068 * k_a1) + 2)) → Q (.inl (some (.int (0 : Int32)))) (zh K ((2 : Int32), rf, rs, bad, pr, pn, J) (m, pa, pb, pc, vf, vs, B) w)))))))))))))))))))) ∧ ((zslot a1) = false → Q (.inl (some (.int (0 : Int32)))) (zh K ((1 : Int32), rf, rs, bad, pr, pn, J) (m, pa, pb, pc, vf, vs, B) w)))))) : zT zm_182 [.ref 75, .int a0, .int a1, .int (zbi a2)] p (zh K (code, rf, rs, bad, pr, pn, J) (m, pa, pb, pc, vf, vs, B) w) Q := by
  change zW zm_182 0 [some (.ref 75), some (.int a0), some (.int a1), some (.int (zbi a2)), none, none, none, none, none, none] [] p _ Q
  refine zW_gh 2 [some (.ref 75), some (.int a0), some (.int a1), some (.int (zbi a2)), none, none, none, none, none, none] [.int (0 : Int32), .ref 75] 2 (fun f => rfl) ?_
  refine zW_go (pc' := 5) (L' := [some (.ref 75), some (.int a0), some (.int a1), some (.int (zbi a2)), none, none, none, none, none, none]) (st' := []) (h' := (va_up (zh K (code, rf, rs, bad, pr, pn, J) (m, pa, pb, pc, vf, vs, B) w) 75 (.inr (7, zfl ((0 : Int32), rf, rs, bad, pr, pn, J))))) 1 (fun f => rfl) ?_
  refine zW_eq zu_75 ?_
  refine zW_gh 6 [some (.ref 75), some (.int a0), some (.int a1), some (.int (zbi a2)), none, none, none, none, none, none] [.int a0] 1 (fun f => rfl) ?_
  refine zW_cl rfl rfl rfl rfl rfl (s140 ?_)
  change zW zm_182 9 [some (.ref 75), some (.int a0), some (.int a1), some (.int (zbi a2)), none, none, none, none, none, none] [.int (zbi (zslot a0))] p _ Q
  refine zW_bh (zcmp .eq (zbi (zslot a0)) (0 : Int32)) 19 12 [some (.ref 75), some (.int a0), some (.int a1), some (.int (zbi a2)), none, none, none, none, none, none] [] 1 (fun f => rfl) (fun c => ?_) (fun c => ?_)
  · have c9 : (zslot a0) = false := ((Bool.not_eq_true' _).mp ((zcB_eq _).symm.trans c))
    replace H := H.1 c9
    refine zW_gh 21 [some (.ref 75), some (.int a0), some (.int a1), some (.int (zbi a2)), none, none, none, none, none, none] [.int (1 : Int32), .ref 75] 2 (fun f => rfl) ?_
    refine zW_cl rfl rfl rfl rfl rfl (s142 ?_)
    change zW zm_182 24 [some (.ref 75), some (.int a0), some (.int a1), some (.int (zbi a2)), none, none, none, none, none, none] [.int (0 : Int32)] p _ Q
    exact zW_rh (some (.int (0 : Int32))) 1 (fun f => rfl) H
  · have c9 : (zslot a0) = true := ((Bool.not_eq_false' _).mp ((zcB_eq _).symm.trans c))
    replace H := H.2 c9
    obtain ⟨k_a0, h_k_a0, e_k_a0⟩ := zslot_n c9
    replace H := H k_a0 h_k_a0 e_k_a0
    subst e_k_a0
    refine zW_gh 13 [some (.ref 75), some (.int (Int32.ofNat k_a0)), some (.int a1), some (.int (zbi a2)), none, none, none, none, none, none] [.int a1] 1 (fun f => rfl) ?_
    refine zW_cl rfl rfl rfl rfl rfl (s140 ?_)
    change zW zm_182 16 [some (.ref 75), some (.int (Int32.ofNat k_a0)), some (.int a1), some (.int (zbi a2)), none, none, none, none, none, none] [.int (zbi (zslot a1))] p _ Q
    refine zW_bh (zcmp .ne (zbi (zslot a1)) (0 : Int32)) 25 19 [some (.ref 75), some (.int (Int32.ofNat k_a0)), some (.int a1), some (.int (zbi a2)), none, none, none, none, none, none] [] 1 (fun f => rfl) (fun c => ?_) (fun c => ?_)
    · have c9 : (zslot a1) = true := ((zcB_ne _).symm.trans c)
      replace H := H.1 c9
      obtain ⟨k_a1, h_k_a1, e_k_a1⟩ := zslot_n c9
      replace H := H k_a1 h_k_a1 e_k_a1
      subst e_k_a1
      refine zW_gh 32 [some (.ref 75), some (.int (Int32.ofNat k_a0)), some (.int (Int32.ofNat k_a1)), some (.int (zbi a2)), some (.int ((1068 : Int32) * (Int32.ofNat k_a0))), none, none, none, none, none] [] 4 (fun f => rfl) ?_
      rw [show ((1068 : Int32) * (Int32.ofNat k_a0)) = Int32.ofNat (1068 * k_a0) from (zN_m rfl rfl)]
      refine zW_gh 39 [some (.ref 75), some (.int (Int32.ofNat k_a0)), some (.int (Int32.ofNat k_a1)), some (.int (zbi a2)), some (.int (Int32.ofNat (1068 * k_a0))), some (.int ((1068 : Int32) * (Int32.ofNat k_a1))), none, none, none, none] [] 4 (fun f => rfl) ?_
      rw [show ((1068 : Int32) * (Int32.ofNat k_a1)) = Int32.ofNat (1068 * k_a1) from (zN_m rfl rfl)]
      refine zW_bh (zcmp .eq (zbi a2) (0 : Int32)) 47 43 [some (.ref 75), some (.int (Int32.ofNat k_a0)), some (.int (Int32.ofNat k_a1)), some (.int (zbi a2)), some (.int (Int32.ofNat (1068 * k_a0))), some (.int (Int32.ofNat (1068 * k_a1))), none, none, none, none] [] 2 (fun f => rfl) (fun c => ?_) (fun c => ?_)
      · have c9 : a2 = false := ((Bool.not_eq_true' _).mp ((zcB_eq _).symm.trans c))
        replace H := H.1 c9
        refine zW_gh 52 [some (.ref 75), some (.int (Int32.ofNat k_a0)), some (.int (Int32.ofNat k_a1)), some (.int (zbi a2)), some (.int (Int32.ofNat (1068 * k_a0))), some (.int (Int32.ofNat (1068 * k_a1))), some (.int (1 : Int32)), none, none, none] [.int (Int32.ofNat k_a0), .ref 75] 4 (fun f => rfl) ?_
        obtain ⟨h1, H⟩ := H
        refine zW_cl rfl rfl rfl rfl rfl ((s144 rfl) h1 ?_)
        change zW zm_182 55 [some (.ref 75), some (.int (Int32.ofNat k_a0)), some (.int (Int32.ofNat k_a1)), some (.int (zbi a2)), some (.int (Int32.ofNat (1068 * k_a0))), some (.int (Int32.ofNat (1068 * k_a1))), some (.int (1 : Int32)), none, none, none] [.int (zbi (decide (m (1068 * k_a0) = -1)))] p _ Q
        refine zW_bh (zcmp .ne (zbi (decide (m (1068 * k_a0) = -1))) (0 : Int32)) 115 58 [some (.ref 75), some (.int (Int32.ofNat k_a0)), some (.int (Int32.ofNat k_a1)), some (.int (zbi a2)), some (.int (Int32.ofNat (1068 * k_a0))), some (.int (Int32.ofNat (1068 * k_a1))), some (.int (1 : Int32)), none, none, none] [] 1 (fun f => rfl) (fun c => ?_) (fun c => ?_)
        · have c9 : (decide (m (1068 * k_a0) = -1)) = true := ((zcB_ne _).symm.trans c)
          replace H := H.1 c9
          refine zW_gh 117 [some (.ref 75), some (.int (Int32.ofNat k_a0)), some (.int (Int32.ofNat k_a1)), some (.int (zbi a2)), some (.int (Int32.ofNat (1068 * k_a0))), some (.int (Int32.ofNat (1068 * k_a1))), some (.int (1 : Int32)), none, none, none] [.int (2 : Int32), .ref 75] 2 (fun f => rfl) ?_
          refine zW_cl rfl rfl rfl rfl rfl (s142 ?_)
          change zW zm_182 120 [some (.ref 75), some (.int (Int32.ofNat k_a0)), some (.int (Int32.ofNat k_a1)), some (.int (zbi a2)), some (.int (Int32.ofNat (1068 * k_a0))), some (.int (Int32.ofNat (1068 * k_a1))), some (.int (1 : Int32)), none, none, none] [.int (0 : Int32)] p _ Q
          exact zW_rh (some (.int (0 : Int32))) 1 (fun f => rfl) H
        · have c9 : (decide (m (1068 * k_a0) = -1)) = false := ((zcB_ne _).symm.trans c)
          replace H := H.2 c9
          refine zW_gh 60 [some (.ref 75), some (.int (Int32.ofNat k_a0)), some (.int (Int32.ofNat k_a1)), some (.int (zbi a2)), some (.int (Int32.ofNat (1068 * k_a0))), some (.int (Int32.ofNat (1068 * k_a1))), some (.int (1 : Int32)), none, none, none] [.int (Int32.ofNat k_a1), .ref 75] 2 (fun f => rfl) ?_
          obtain ⟨h2, H⟩ := H
          refine zW_cl rfl rfl rfl rfl rfl ((s144 rfl) h2 ?_)
          change zW zm_182 63 [some (.ref 75), some (.int (Int32.ofNat k_a0)), some (.int (Int32.ofNat k_a1)), some (.int (zbi a2)), some (.int (Int32.ofNat (1068 * k_a0))), some (.int (Int32.ofNat (1068 * k_a1))), some (.int (1 : Int32)), none, none, none] [.int (zbi (decide (m (1068 * k_a1) = -1)))] p _ Q
          refine zW_bh (zcmp .ne (zbi (decide (m (1068 * k_a1) = -1))) (0 : Int32)) 115 66 [some (.ref 75), some (.int (Int32.ofNat k_a0)), some (.int (Int32.ofNat k_a1)), some (.int (zbi a2)), some (.int (Int32.ofNat (1068 * k_a0))), some (.int (Int32.ofNat (1068 * k_a1))), some (.int (1 : Int32)), none, none, none] [] 1 (fun f => rfl) (fun c => ?_) (fun c => ?_)
          · have c9 : (decide (m (1068 * k_a1) = -1)) = true := ((zcB_ne _).symm.trans c)
            replace H := H.1 c9
            refine zW_gh 117 [some (.ref 75), some (.int (Int32.ofNat k_a0)), some (.int (Int32.ofNat k_a1)), some (.int (zbi a2)), some (.int (Int32.ofNat (1068 * k_a0))), some (.int (Int32.ofNat (1068 * k_a1))), some (.int (1 : Int32)), none, none, none] [.int (2 : Int32), .ref 75] 2 (fun f => rfl) ?_
            refine zW_cl rfl rfl rfl rfl rfl (s142 ?_)
            change zW zm_182 120 [some (.ref 75), some (.int (Int32.ofNat k_a0)), some (.int (Int32.ofNat k_a1)), some (.int (zbi a2)), some (.int (Int32.ofNat (1068 * k_a0))), some (.int (Int32.ofNat (1068 * k_a1))), some (.int (1 : Int32)), none, none, none] [.int (0 : Int32)] p _ Q
            exact zW_rh (some (.int (0 : Int32))) 1 (fun f => rfl) H
          · have c9 : (decide (m (1068 * k_a1) = -1)) = false := ((zcB_ne _).symm.trans c)
            replace H := H.2 c9
            refine zW_bh (zcmp .eq (Int32.ofNat k_a0) (Int32.ofNat k_a1)) 115 71 [some (.ref 75), some (.int (Int32.ofNat k_a0)), some (.int (Int32.ofNat k_a1)), some (.int (zbi a2)), some (.int (Int32.ofNat (1068 * k_a0))), some (.int (Int32.ofNat (1068 * k_a1))), some (.int (1 : Int32)), none, none, none] [] 3 (fun f => rfl) (fun c => ?_) (fun c => ?_)
            · have c9 : k_a0 = k_a1 := (of_decide_eq_true ((zcN_eq (a := k_a0) (b := k_a1) rfl rfl (Nat.lt_trans h_k_a0 (by decide)) (Nat.lt_trans h_k_a1 (by decide))).symm.trans c))
              replace H := H.1 c9
              refine zW_gh 117 [some (.ref 75), some (.int (Int32.ofNat k_a0)), some (.int (Int32.ofNat k_a1)), some (.int (zbi a2)), some (.int (Int32.ofNat (1068 * k_a0))), some (.int (Int32.ofNat (1068 * k_a1))), some (.int (1 : Int32)), none, none, none] [.int (2 : Int32), .ref 75] 2 (fun f => rfl) ?_
              refine zW_cl rfl rfl rfl rfl rfl (s142 ?_)
              change zW zm_182 120 [some (.ref 75), some (.int (Int32.ofNat k_a0)), some (.int (Int32.ofNat k_a1)), some (.int (zbi a2)), some (.int (Int32.ofNat (1068 * k_a0))), some (.int (Int32.ofNat (1068 * k_a1))), some (.int (1 : Int32)), none, none, none] [.int (0 : Int32)] p _ Q
              exact zW_rh (some (.int (0 : Int32))) 1 (fun f => rfl) H
            · have c9 : ¬ k_a0 = k_a1 := (of_decide_eq_false ((zcN_eq (a := k_a0) (b := k_a1) rfl rfl (Nat.lt_trans h_k_a0 (by decide)) (Nat.lt_trans h_k_a1 (by decide))).symm.trans c))
              replace H := H.2 c9
              refine zW_gh 79 [some (.ref 75), some (.int (Int32.ofNat k_a0)), some (.int (Int32.ofNat k_a1)), some (.int (zbi a2)), some (.int (Int32.ofNat (1068 * k_a0))), some (.int (Int32.ofNat (1068 * k_a1))), some (.int (1 : Int32)), none, none, none] [.int ((Int32.ofNat (1068 * k_a0)) + (0 : Int32)), .ref 76] 5 (fun f => rfl) ?_
              obtain ⟨h3, H⟩ := H
              refine zW_iald rfl (by decide) rfl (by decide) (zN_a rfl rfl) h3 ?_
              refine zW_gh 88 [some (.ref 75), some (.int (Int32.ofNat k_a0)), some (.int (Int32.ofNat k_a1)), some (.int (zbi a2)), some (.int (Int32.ofNat (1068 * k_a0))), some (.int (Int32.ofNat (1068 * k_a1))), some (.int (1 : Int32)), none, none, none] [.int ((Int32.ofNat (1068 * k_a1)) + (0 : Int32)), .ref 76, .int (m ((1068 * k_a0) + 0))] 5 (fun f => rfl) ?_
              obtain ⟨h4, H⟩ := H
              refine zW_iald rfl (by decide) rfl (by decide) (zN_a rfl rfl) h4 ?_
              refine zW_bh (zcmp .ne (m ((1068 * k_a0) + 0)) (m ((1068 * k_a1) + 0))) 115 92 [some (.ref 75), some (.int (Int32.ofNat k_a0)), some (.int (Int32.ofNat k_a1)), some (.int (zbi a2)), some (.int (Int32.ofNat (1068 * k_a0))), some (.int (Int32.ofNat (1068 * k_a1))), some (.int (1 : Int32)), none, none, none] [] 1 (fun f => rfl) (fun c => ?_) (fun c => ?_)
              · have c9 : ¬ (m ((1068 * k_a0) + 0)) = (m ((1068 * k_a1) + 0)) := (by simpa [zcmp] using c)
                replace H := H.1 c9
                refine zW_gh 117 [some (.ref 75), some (.int (Int32.ofNat k_a0)), some (.int (Int32.ofNat k_a1)), some (.int (zbi a2)), some (.int (Int32.ofNat (1068 * k_a0))), some (.int (Int32.ofNat (1068 * k_a1))), some (.int (1 : Int32)), none, none, none] [.int (2 : Int32), .ref 75] 2 (fun f => rfl) ?_
                refine zW_cl rfl rfl rfl rfl rfl (s142 ?_)
                change zW zm_182 120 [some (.ref 75), some (.int (Int32.ofNat k_a0)), some (.int (Int32.ofNat k_a1)), some (.int (zbi a2)), some (.int (Int32.ofNat (1068 * k_a0))), some (.int (Int32.ofNat (1068 * k_a1))), some (.int (1 : Int32)), none, none, none] [.int (0 : Int32)] p _ Q
                exact zW_rh (some (.int (0 : Int32))) 1 (fun f => rfl) H
              · have c9 : (m ((1068 * k_a0) + 0)) = (m ((1068 * k_a1) + 0)) := (by simpa [zcmp] using c)
                replace H := H.2 c9
                refine zW_gh 101 [some (.ref 75), some (.int (Int32.ofNat k_a0)), some (.int (Int32.ofNat k_a1)), some (.int (zbi a2)), some (.int (Int32.ofNat (1068 * k_a0))), some (.int (Int32.ofNat (1068 * k_a1))), some (.int (1 : Int32)), none, none, none] [.int ((Int32.ofNat (1068 * k_a0)) + (1 : Int32)), .ref 76] 5 (fun f => rfl) ?_
                obtain ⟨h5, H⟩ := H
                refine zW_iald rfl (by decide) rfl (by decide) (zN_a rfl rfl) h5 ?_
                refine zW_gh 111 [some (.ref 75), some (.int (Int32.ofNat k_a0)), some (.int (Int32.ofNat k_a1)), some (.int (zbi a2)), some (.int (Int32.ofNat (1068 * k_a0))), some (.int (Int32.ofNat (1068 * k_a1))), some (.int (1 : Int32)), none, none, none] [.int ((Int32.ofNat (1068 * k_a1)) + (1 : Int32)), .ref 76, .int (m ((1068 * k_a0) + 1))] 5 (fun f => rfl) ?_
                obtain ⟨h6, H⟩ := H
                refine zW_iald rfl (by decide) rfl (by decide) (zN_a rfl rfl) h6 ?_
                refine zW_bh (zcmp .eq (m ((1068 * k_a0) + 1)) (m ((1068 * k_a1) + 1))) 121 115 [some (.ref 75), some (.int (Int32.ofNat k_a0)), some (.int (Int32.ofNat k_a1)), some (.int (zbi a2)), some (.int (Int32.ofNat (1068 * k_a0))), some (.int (Int32.ofNat (1068 * k_a1))), some (.int (1 : Int32)), none, none, none] [] 1 (fun f => rfl) (fun c => ?_) (fun c => ?_)
                · have c9 : (m ((1068 * k_a0) + 1)) = (m ((1068 * k_a1) + 1)) := (of_decide_eq_true c)
                  replace H := H.1 c9
                  refine zW_gh 123 [some (.ref 75), some (.int (Int32.ofNat k_a0)), some (.int (Int32.ofNat k_a1)), some (.int (zbi a2)), some (.int (Int32.ofNat (1068 * k_a0))), some (.int (Int32.ofNat (1068 * k_a1))), some (.int (1 : Int32)), none, none, none] [.int (Int32.ofNat k_a1), .ref 75] 2 (fun f => rfl) ?_
                  refine zW_fg (L' := [some (.ref 75), none, some (.int (Int32.ofNat k_a1)), some (.int (zbi a2)), some (.int (Int32.ofNat (1068 * k_a0))), none, none, none, none, none]) (zle_s _ (zle_n _ (zle_s _ (zle_s _ (zle_s _ (zle_n _ (zle_n _ (zle_s _ (zle_s _ (zle_s _ zle_nil)))))))))) ?_
                  exact zW_cl rfl rfl rfl rfl rfl H
                · have c9 : ¬ (m ((1068 * k_a0) + 1)) = (m ((1068 * k_a1) + 1)) := (of_decide_eq_false c)
                  replace H := H.2 c9
                  refine zW_gh 117 [some (.ref 75), some (.int (Int32.ofNat k_a0)), some (.int (Int32.ofNat k_a1)), some (.int (zbi a2)), some (.int (Int32.ofNat (1068 * k_a0))), some (.int (Int32.ofNat (1068 * k_a1))), some (.int (1 : Int32)), none, none, none] [.int (2 : Int32), .ref 75] 2 (fun f => rfl) ?_
                  refine zW_cl rfl rfl rfl rfl rfl (s142 ?_)
                  change zW zm_182 120 [some (.ref 75), some (.int (Int32.ofNat k_a0)), some (.int (Int32.ofNat k_a1)), some (.int (zbi a2)), some (.int (Int32.ofNat (1068 * k_a0))), some (.int (Int32.ofNat (1068 * k_a1))), some (.int (1 : Int32)), none, none, none] [.int (0 : Int32)] p _ Q
                  exact zW_rh (some (.int (0 : Int32))) 1 (fun f => rfl) H
      · have c9 : a2 = true := ((Bool.not_eq_false' _).mp ((zcB_eq _).symm.trans c))
        replace H := H.2 c9
        refine zW_gh 52 [some (.ref 75), some (.int (Int32.ofNat k_a0)), some (.int (Int32.ofNat k_a1)), some (.int (zbi a2)), some (.int (Int32.ofNat (1068 * k_a0))), some (.int (Int32.ofNat (1068 * k_a1))), some (.int (2 : Int32)), none, none, none] [.int (Int32.ofNat k_a0), .ref 75] 5 (fun f => rfl) ?_
        obtain ⟨h7, H⟩ := H
        refine zW_cl rfl rfl rfl rfl rfl ((s144 rfl) h7 ?_)
        change zW zm_182 55 [some (.ref 75), some (.int (Int32.ofNat k_a0)), some (.int (Int32.ofNat k_a1)), some (.int (zbi a2)), some (.int (Int32.ofNat (1068 * k_a0))), some (.int (Int32.ofNat (1068 * k_a1))), some (.int (2 : Int32)), none, none, none] [.int (zbi (decide (m (1068 * k_a0) = -1)))] p _ Q
        refine zW_bh (zcmp .ne (zbi (decide (m (1068 * k_a0) = -1))) (0 : Int32)) 115 58 [some (.ref 75), some (.int (Int32.ofNat k_a0)), some (.int (Int32.ofNat k_a1)), some (.int (zbi a2)), some (.int (Int32.ofNat (1068 * k_a0))), some (.int (Int32.ofNat (1068 * k_a1))), some (.int (2 : Int32)), none, none, none] [] 1 (fun f => rfl) (fun c => ?_) (fun c => ?_)
        · have c9 : (decide (m (1068 * k_a0) = -1)) = true := ((zcB_ne _).symm.trans c)
          replace H := H.1 c9
          refine zW_gh 117 [some (.ref 75), some (.int (Int32.ofNat k_a0)), some (.int (Int32.ofNat k_a1)), some (.int (zbi a2)), some (.int (Int32.ofNat (1068 * k_a0))), some (.int (Int32.ofNat (1068 * k_a1))), some (.int (2 : Int32)), none, none, none] [.int (2 : Int32), .ref 75] 2 (fun f => rfl) ?_
          refine zW_cl rfl rfl rfl rfl rfl (s142 ?_)
          change zW zm_182 120 [some (.ref 75), some (.int (Int32.ofNat k_a0)), some (.int (Int32.ofNat k_a1)), some (.int (zbi a2)), some (.int (Int32.ofNat (1068 * k_a0))), some (.int (Int32.ofNat (1068 * k_a1))), some (.int (2 : Int32)), none, none, none] [.int (0 : Int32)] p _ Q
          exact zW_rh (some (.int (0 : Int32))) 1 (fun f => rfl) H
        · have c9 : (decide (m (1068 * k_a0) = -1)) = false := ((zcB_ne _).symm.trans c)
          replace H := H.2 c9
          refine zW_gh 60 [some (.ref 75), some (.int (Int32.ofNat k_a0)), some (.int (Int32.ofNat k_a1)), some (.int (zbi a2)), some (.int (Int32.ofNat (1068 * k_a0))), some (.int (Int32.ofNat (1068 * k_a1))), some (.int (2 : Int32)), none, none, none] [.int (Int32.ofNat k_a1), .ref 75] 2 (fun f => rfl) ?_
          obtain ⟨h8, H⟩ := H
          refine zW_cl rfl rfl rfl rfl rfl ((s144 rfl) h8 ?_)
          change zW zm_182 63 [some (.ref 75), some (.int (Int32.ofNat k_a0)), some (.int (Int32.ofNat k_a1)), some (.int (zbi a2)), some (.int (Int32.ofNat (1068 * k_a0))), some (.int (Int32.ofNat (1068 * k_a1))), some (.int (2 : Int32)), none, none, none] [.int (zbi (decide (m (1068 * k_a1) = -1)))] p _ Q
          refine zW_bh (zcmp .ne (zbi (decide (m (1068 * k_a1) = -1))) (0 : Int32)) 115 66 [some (.ref 75), some (.int (Int32.ofNat k_a0)), some (.int (Int32.ofNat k_a1)), some (.int (zbi a2)), some (.int (Int32.ofNat (1068 * k_a0))), some (.int (Int32.ofNat (1068 * k_a1))), some (.int (2 : Int32)), none, none, none] [] 1 (fun f => rfl) (fun c => ?_) (fun c => ?_)
          · have c9 : (decide (m (1068 * k_a1) = -1)) = true := ((zcB_ne _).symm.trans c)
            replace H := H.1 c9
            refine zW_gh 117 [some (.ref 75), some (.int (Int32.ofNat k_a0)), some (.int (Int32.ofNat k_a1)), some (.int (zbi a2)), some (.int (Int32.ofNat (1068 * k_a0))), some (.int (Int32.ofNat (1068 * k_a1))), some (.int (2 : Int32)), none, none, none] [.int (2 : Int32), .ref 75] 2 (fun f => rfl) ?_
            refine zW_cl rfl rfl rfl rfl rfl (s142 ?_)
            change zW zm_182 120 [some (.ref 75), some (.int (Int32.ofNat k_a0)), some (.int (Int32.ofNat k_a1)), some (.int (zbi a2)), some (.int (Int32.ofNat (1068 * k_a0))), some (.int (Int32.ofNat (1068 * k_a1))), some (.int (2 : Int32)), none, none, none] [.int (0 : Int32)] p _ Q
            exact zW_rh (some (.int (0 : Int32))) 1 (fun f => rfl) H
          · have c9 : (decide (m (1068 * k_a1) = -1)) = false := ((zcB_ne _).symm.trans c)
            replace H := H.2 c9
            refine zW_bh (zcmp .eq (Int32.ofNat k_a0) (Int32.ofNat k_a1)) 115 71 [some (.ref 75), some (.int (Int32.ofNat k_a0)), some (.int (Int32.ofNat k_a1)), some (.int (zbi a2)), some (.int (Int32.ofNat (1068 * k_a0))), some (.int (Int32.ofNat (1068 * k_a1))), some (.int (2 : Int32)), none, none, none] [] 3 (fun f => rfl) (fun c => ?_) (fun c => ?_)
            · have c9 : k_a0 = k_a1 := (of_decide_eq_true ((zcN_eq (a := k_a0) (b := k_a1) rfl rfl (Nat.lt_trans h_k_a0 (by decide)) (Nat.lt_trans h_k_a1 (by decide))).symm.trans c))
              replace H := H.1 c9
              refine zW_gh 117 [some (.ref 75), some (.int (Int32.ofNat k_a0)), some (.int (Int32.ofNat k_a1)), some (.int (zbi a2)), some (.int (Int32.ofNat (1068 * k_a0))), some (.int (Int32.ofNat (1068 * k_a1))), some (.int (2 : Int32)), none, none, none] [.int (2 : Int32), .ref 75] 2 (fun f => rfl) ?_
              refine zW_cl rfl rfl rfl rfl rfl (s142 ?_)
              change zW zm_182 120 [some (.ref 75), some (.int (Int32.ofNat k_a0)), some (.int (Int32.ofNat k_a1)), some (.int (zbi a2)), some (.int (Int32.ofNat (1068 * k_a0))), some (.int (Int32.ofNat (1068 * k_a1))), some (.int (2 : Int32)), none, none, none] [.int (0 : Int32)] p _ Q
              exact zW_rh (some (.int (0 : Int32))) 1 (fun f => rfl) H
            · have c9 : ¬ k_a0 = k_a1 := (of_decide_eq_false ((zcN_eq (a := k_a0) (b := k_a1) rfl rfl (Nat.lt_trans h_k_a0 (by decide)) (Nat.lt_trans h_k_a1 (by decide))).symm.trans c))
              replace H := H.2 c9
              refine zW_gh 79 [some (.ref 75), some (.int (Int32.ofNat k_a0)), some (.int (Int32.ofNat k_a1)), some (.int (zbi a2)), some (.int (Int32.ofNat (1068 * k_a0))), some (.int (Int32.ofNat (1068 * k_a1))), some (.int (2 : Int32)), none, none, none] [.int ((Int32.ofNat (1068 * k_a0)) + (0 : Int32)), .ref 76] 5 (fun f => rfl) ?_
              obtain ⟨h9, H⟩ := H
              refine zW_iald rfl (by decide) rfl (by decide) (zN_a rfl rfl) h9 ?_
              refine zW_gh 88 [some (.ref 75), some (.int (Int32.ofNat k_a0)), some (.int (Int32.ofNat k_a1)), some (.int (zbi a2)), some (.int (Int32.ofNat (1068 * k_a0))), some (.int (Int32.ofNat (1068 * k_a1))), some (.int (2 : Int32)), none, none, none] [.int ((Int32.ofNat (1068 * k_a1)) + (0 : Int32)), .ref 76, .int (m ((1068 * k_a0) + 0))] 5 (fun f => rfl) ?_
              obtain ⟨h10, H⟩ := H
              refine zW_iald rfl (by decide) rfl (by decide) (zN_a rfl rfl) h10 ?_
              refine zW_bh (zcmp .ne (m ((1068 * k_a0) + 0)) (m ((1068 * k_a1) + 0))) 115 92 [some (.ref 75), some (.int (Int32.ofNat k_a0)), some (.int (Int32.ofNat k_a1)), some (.int (zbi a2)), some (.int (Int32.ofNat (1068 * k_a0))), some (.int (Int32.ofNat (1068 * k_a1))), some (.int (2 : Int32)), none, none, none] [] 1 (fun f => rfl) (fun c => ?_) (fun c => ?_)
              · have c9 : ¬ (m ((1068 * k_a0) + 0)) = (m ((1068 * k_a1) + 0)) := (by simpa [zcmp] using c)
                replace H := H.1 c9
                refine zW_gh 117 [some (.ref 75), some (.int (Int32.ofNat k_a0)), some (.int (Int32.ofNat k_a1)), some (.int (zbi a2)), some (.int (Int32.ofNat (1068 * k_a0))), some (.int (Int32.ofNat (1068 * k_a1))), some (.int (2 : Int32)), none, none, none] [.int (2 : Int32), .ref 75] 2 (fun f => rfl) ?_
                refine zW_cl rfl rfl rfl rfl rfl (s142 ?_)
                change zW zm_182 120 [some (.ref 75), some (.int (Int32.ofNat k_a0)), some (.int (Int32.ofNat k_a1)), some (.int (zbi a2)), some (.int (Int32.ofNat (1068 * k_a0))), some (.int (Int32.ofNat (1068 * k_a1))), some (.int (2 : Int32)), none, none, none] [.int (0 : Int32)] p _ Q
                exact zW_rh (some (.int (0 : Int32))) 1 (fun f => rfl) H
              · have c9 : (m ((1068 * k_a0) + 0)) = (m ((1068 * k_a1) + 0)) := (by simpa [zcmp] using c)
                replace H := H.2 c9
                refine zW_gh 101 [some (.ref 75), some (.int (Int32.ofNat k_a0)), some (.int (Int32.ofNat k_a1)), some (.int (zbi a2)), some (.int (Int32.ofNat (1068 * k_a0))), some (.int (Int32.ofNat (1068 * k_a1))), some (.int (2 : Int32)), none, none, none] [.int ((Int32.ofNat (1068 * k_a0)) + (2 : Int32)), .ref 76] 5 (fun f => rfl) ?_
                obtain ⟨h11, H⟩ := H
                refine zW_iald rfl (by decide) rfl (by decide) (zN_a rfl rfl) h11 ?_
                refine zW_gh 111 [some (.ref 75), some (.int (Int32.ofNat k_a0)), some (.int (Int32.ofNat k_a1)), some (.int (zbi a2)), some (.int (Int32.ofNat (1068 * k_a0))), some (.int (Int32.ofNat (1068 * k_a1))), some (.int (2 : Int32)), none, none, none] [.int ((Int32.ofNat (1068 * k_a1)) + (2 : Int32)), .ref 76, .int (m ((1068 * k_a0) + 2))] 5 (fun f => rfl) ?_
                obtain ⟨h12, H⟩ := H
                refine zW_iald rfl (by decide) rfl (by decide) (zN_a rfl rfl) h12 ?_
                refine zW_bh (zcmp .eq (m ((1068 * k_a0) + 2)) (m ((1068 * k_a1) + 2))) 121 115 [some (.ref 75), some (.int (Int32.ofNat k_a0)), some (.int (Int32.ofNat k_a1)), some (.int (zbi a2)), some (.int (Int32.ofNat (1068 * k_a0))), some (.int (Int32.ofNat (1068 * k_a1))), some (.int (2 : Int32)), none, none, none] [] 1 (fun f => rfl) (fun c => ?_) (fun c => ?_)
                · have c9 : (m ((1068 * k_a0) + 2)) = (m ((1068 * k_a1) + 2)) := (of_decide_eq_true c)
                  replace H := H.1 c9
                  refine zW_gh 123 [some (.ref 75), some (.int (Int32.ofNat k_a0)), some (.int (Int32.ofNat k_a1)), some (.int (zbi a2)), some (.int (Int32.ofNat (1068 * k_a0))), some (.int (Int32.ofNat (1068 * k_a1))), some (.int (2 : Int32)), none, none, none] [.int (Int32.ofNat k_a1), .ref 75] 2 (fun f => rfl) ?_
                  refine zW_fg (L' := [some (.ref 75), none, some (.int (Int32.ofNat k_a1)), some (.int (zbi a2)), some (.int (Int32.ofNat (1068 * k_a0))), none, none, none, none, none]) (zle_s _ (zle_n _ (zle_s _ (zle_s _ (zle_s _ (zle_n _ (zle_n _ (zle_s _ (zle_s _ (zle_s _ zle_nil)))))))))) ?_
                  exact zW_cl rfl rfl rfl rfl rfl H
                · have c9 : ¬ (m ((1068 * k_a0) + 2)) = (m ((1068 * k_a1) + 2)) := (of_decide_eq_false c)
                  replace H := H.2 c9
                  refine zW_gh 117 [some (.ref 75), some (.int (Int32.ofNat k_a0)), some (.int (Int32.ofNat k_a1)), some (.int (zbi a2)), some (.int (Int32.ofNat (1068 * k_a0))), some (.int (Int32.ofNat (1068 * k_a1))), some (.int (2 : Int32)), none, none, none] [.int (2 : Int32), .ref 75] 2 (fun f => rfl) ?_
                  refine zW_cl rfl rfl rfl rfl rfl (s142 ?_)
                  change zW zm_182 120 [some (.ref 75), some (.int (Int32.ofNat k_a0)), some (.int (Int32.ofNat k_a1)), some (.int (zbi a2)), some (.int (Int32.ofNat (1068 * k_a0))), some (.int (Int32.ofNat (1068 * k_a1))), some (.int (2 : Int32)), none, none, none] [.int (0 : Int32)] p _ Q
                  exact zW_rh (some (.int (0 : Int32))) 1 (fun f => rfl) H
    · have c9 : (zslot a1) = false := ((zcB_ne _).symm.trans c)
      replace H := H.2 c9
      refine zW_gh 21 [some (.ref 75), some (.int (Int32.ofNat k_a0)), some (.int a1), some (.int (zbi a2)), none, none, none, none, none, none] [.int (1 : Int32), .ref 75] 2 (fun f => rfl) ?_
      refine zW_cl rfl rfl rfl rfl rfl (s142 ?_)
      change zW zm_182 24 [some (.ref 75), some (.int (Int32.ofNat k_a0)), some (.int a1), some (.int (zbi a2)), none, none, none, none, none, none] [.int (0 : Int32)] p _ Q
      exact zW_rh (some (.int (0 : Int32))) 1 (fun f => rfl) H
set_option maxRecDepth 20000 in
theorem b182_126 {K : zKt} {code rf rs pr pn : Int32} {bad : Bool} {J : zJt} {m pa pb pc vf vs : Nat → Int32} {B : zBt} {w : Nat → Int64} {p : Nat × Nat} {Q : zR → zH → Prop} {x2 x4 : Nat} {x3 : Bool} (H : zW zm_182 132 [some (.ref 75), none, some (.int (Int32.ofNat x2)), some (.int (zbi x3)), some (.int (Int32.ofNat x4)), none, none, some (.int (Int32.ofNat 0)), some (.int (Int32.ofNat 0)), none] [] p (zh K (code, rf, rs, bad, pr, pn, J) (m, pa, pb, pc, vf, vs, B) w) Q) : zW zm_182 126 [some (.ref 75), none, some (.int (Int32.ofNat x2)), some (.int (zbi x3)), some (.int (Int32.ofNat x4)), none, none, none, none, none] [] p (zh K (code, rf, rs, bad, pr, pn, J) (m, pa, pb, pc, vf, vs, B) w) Q := by
  refine zW_gh 132 [some (.ref 75), none, some (.int (Int32.ofNat x2)), some (.int (zbi x3)), some (.int (Int32.ofNat x4)), none, none, some (.int (0 : Int32)), some (.int (0 : Int32)), none] [] 4 (fun f => rfl) ?_
  exact H
set_option maxRecDepth 20000 in
theorem b182_132 {K : zKt} {code rf rs pr pn : Int32} {bad : Bool} {J : zJt} {m pa pb pc vf vs : Nat → Int32} {B : zBt} {w : Nat → Int64} {p : Nat × Nat} {Q : zR → zH → Prop} {x2 x4 x7 x8 : Nat} {x3 : Bool} (H : ((x4 + 3) < 5340 ∧ (((m (x4 + 3)) ≤ (Int32.ofNat x8) → zT zm_162 [.ref 75, .int (Int32.ofNat x2), .int (Int32.ofNat x7), .int (3 : Int32)] p (zh K (code, rf, rs, bad, pr, pn, J) (m, pa, pb, pc, vf, vs, B) w) (zK zm_182 245 [none, none, none, none, none, none, none, none, none, none] [] p Q)) ∧ (¬ (m (x4 + 3)) ≤ (Int32.ofNat x8) → (((x4 + 68) + (5 * x8)) < 5340 ∧ (((m ((x4 + 68) + (5 * x8))) ≤ (2 : Int32) → ((¬ (0 : Int32) = (zbi x3) → zW zm_182 132 [some (.ref 75), none, some (.int (Int32.ofNat x2)), some (.int (zbi x3)), some (.int (Int32.ofNat x4)), none, none, some (.int (Int32.ofNat x7)), some (.int (Int32.ofNat (x8 + 1))), none] [] p (zh K (code, rf, rs, bad, pr, pn, J) (m, pa, pb, pc, vf, vs, B) w) Q) ∧ ((0 : Int32) = (zbi x3) → ((((x4 + 68) + (5 * x8)) + 1) < 5340 ∧ ((((x4 + 68) + (5 * x8)) + 2) < 5340 ∧ ((((x4 + 68) + (5 * x8)) + 3) < 5340 ∧ ((((x4 + 68) + (5 * x8)) + 4) < 5340 ∧ zT zm_174 [.ref 75, .int (3204 : Int32), .int (m ((x4 + 68) + (5 * x8))), .int (m (((x4 + 68) + (5 * x8)) + 1)), .int (m (((x4 + 68) + (5 * x8)) + 2)), .int (m (((x4 + 68) + (5 * x8)) + 3)), .int (m (((x4 + 68) + (5 * x8)) + 4))] p (zh K (code, rf, rs, bad, pr, pn, J) (m, pa, pb, pc, vf, vs, B) w) (zK zm_182 228 [some (.ref 75), none, some (.int (Int32.ofNat x2)), some (.int (zbi x3)), some (.int (Int32.ofNat x4)), none, none, some (.int (Int32.ofNat x7)), some (.int (Int32.ofNat x8)), none] [] p Q)))))))) ∧ (¬ (m ((x4 + 68) + (5 * x8))) ≤ (2 : Int32) → ((¬ (1 : Int32) = (zbi x3) → zW zm_182 132 [some (.ref 75), none, some (.int (Int32.ofNat x2)), some (.int (zbi x3)), some (.int (Int32.ofNat x4)), none, none, some (.int (Int32.ofNat x7)), some (.int (Int32.ofNat (x8 + 1))), none] [] p (zh K (code, rf, rs, bad, pr, pn, J) (m, pa, pb, pc, vf, vs, B) w) Q) ∧ ((1 : Int32) = (zbi x3) → ((((x4 + 68) + (5 * x8)) + 1) < 5340 ∧ ((((x4 + 68) + (5 * x8)) + 2) < 5340 ∧ ((((x4 + 68) + (5 * x8)) + 3) < 5340 ∧ ((((x4 + 68) + (5 * x8)) + 4) < 5340 ∧ zT zm_174 [.ref 75, .int (3204 : Int32), .int (m ((x4 + 68) + (5 * x8))), .int (m (((x4 + 68) + (5 * x8)) + 1)), .int (m (((x4 + 68) + (5 * x8)) + 2)), .int (m (((x4 + 68) + (5 * x8)) + 3)), .int (m (((x4 + 68) + (5 * x8)) + 4))] p (zh K (code, rf, rs, bad, pr, pn, J) (m, pa, pb, pc, vf, vs, B) w) (zK zm_182 228 [some (.ref 75), none, some (.int (Int32.ofNat x2)), some (.int (zbi x3)), some (.int (Int32.ofNat x4)), none, none, some (.int (Int32.ofNat x7)), some (.int (Int32.ofNat x8)), none] [] p Q)))))))))))))) : zW zm_182 132 [some (.ref 75), none, some (.int (Int32.ofNat x2)), some (.int (zbi x3)), some (.int (Int32.ofNat x4)), none, none, some (.int (Int32.ofNat x7)), some (.int (Int32.ofNat x8)), none] [] p (zh K (code, rf, rs, bad, pr, pn, J) (m, pa, pb, pc, vf, vs, B) w) Q := by
  refine zW_gh 142 [some (.ref 75), none, some (.int (Int32.ofNat x2)), some (.int (zbi x3)), some (.int (Int32.ofNat x4)), none, none, some (.int (Int32.ofNat x7)), some (.int (Int32.ofNat x8)), none] [.int ((Int32.ofNat x4) + (3 : Int32)), .ref 76, .int (Int32.ofNat x8)] 6 (fun f => rfl) ?_
  obtain ⟨h1, H⟩ := H
  refine zW_iald rfl (by decide) rfl (by decide) (zN_a rfl rfl) h1 ?_
  refine zW_bh (zcmp .ge (Int32.ofNat x8) (m (x4 + 3))) 237 146 [some (.ref 75), none, some (.int (Int32.ofNat x2)), some (.int (zbi x3)), some (.int (Int32.ofNat x4)), none, none, some (.int (Int32.ofNat x7)), some (.int (Int32.ofNat x8)), none] [] 1 (fun f => rfl) (fun c => ?_) (fun c => ?_)
  · have c9 : (m (x4 + 3)) ≤ (Int32.ofNat x8) := (of_decide_eq_true c)
    replace H := H.1 c9
    refine zW_gh 242 [some (.ref 75), none, some (.int (Int32.ofNat x2)), some (.int (zbi x3)), some (.int (Int32.ofNat x4)), none, none, some (.int (Int32.ofNat x7)), some (.int (Int32.ofNat x8)), none] [.int (3 : Int32), .int (Int32.ofNat x7), .int (Int32.ofNat x2), .ref 75] 4 (fun f => rfl) ?_
    refine zW_fg (L' := [none, none, none, none, none, none, none, none, none, none]) (zle_n _ (zle_s _ (zle_n _ (zle_n _ (zle_n _ (zle_s _ (zle_s _ (zle_n _ (zle_n _ (zle_s _ zle_nil)))))))))) ?_
    exact zW_cl rfl rfl rfl rfl rfl H
  · have c9 : ¬ (m (x4 + 3)) ≤ (Int32.ofNat x8) := (of_decide_eq_false c)
    replace H := H.2 c9
    refine zW_gh 158 [some (.ref 75), none, some (.int (Int32.ofNat x2)), some (.int (zbi x3)), some (.int (Int32.ofNat x4)), none, none, some (.int (Int32.ofNat x7)), some (.int (Int32.ofNat x8)), some (.int (((Int32.ofNat x4) + (68 : Int32)) + ((5 : Int32) * (Int32.ofNat x8))))] [] 8 (fun f => rfl) ?_
    rw [show (((Int32.ofNat x4) + (68 : Int32)) + ((5 : Int32) * (Int32.ofNat x8))) = Int32.ofNat ((x4 + 68) + (5 * x8)) from (zN_a (zN_a rfl rfl) (zN_m rfl rfl))]
    refine zW_gh 164 [some (.ref 75), none, some (.int (Int32.ofNat x2)), some (.int (zbi x3)), some (.int (Int32.ofNat x4)), none, none, some (.int (Int32.ofNat x7)), some (.int (Int32.ofNat x8)), some (.int (Int32.ofNat ((x4 + 68) + (5 * x8))))] [.int (Int32.ofNat ((x4 + 68) + (5 * x8))), .ref 76] 3 (fun f => rfl) ?_
    obtain ⟨h2, H⟩ := H
    refine zW_iald rfl (by decide) rfl (by decide) rfl h2 ?_
    refine zW_bh (zcmp .le (m ((x4 + 68) + (5 * x8))) (2 : Int32)) 173 169 [some (.ref 75), none, some (.int (Int32.ofNat x2)), some (.int (zbi x3)), some (.int (Int32.ofNat x4)), none, none, some (.int (Int32.ofNat x7)), some (.int (Int32.ofNat x8)), some (.int (Int32.ofNat ((x4 + 68) + (5 * x8))))] [] 2 (fun f => rfl) (fun c => ?_) (fun c => ?_)
    · have c9 : (m ((x4 + 68) + (5 * x8))) ≤ (2 : Int32) := (of_decide_eq_true c)
      replace H := H.1 c9
      refine zW_bh (zcmp .ne (0 : Int32) (zbi x3)) 231 178 [some (.ref 75), none, some (.int (Int32.ofNat x2)), some (.int (zbi x3)), some (.int (Int32.ofNat x4)), none, none, some (.int (Int32.ofNat x7)), some (.int (Int32.ofNat x8)), some (.int (Int32.ofNat ((x4 + 68) + (5 * x8))))] [] 3 (fun f => rfl) (fun c => ?_) (fun c => ?_)
      · have c9 : ¬ (0 : Int32) = (zbi x3) := (by simpa [zcmp] using c)
        replace H := H.1 c9
        refine zW_inc [some (.ref 75), none, some (.int (Int32.ofNat x2)), some (.int (zbi x3)), some (.int (Int32.ofNat x4)), none, none, some (.int (Int32.ofNat x7)), some (.int ((Int32.ofNat x8) + (1 : Int32))), some (.int (Int32.ofNat ((x4 + 68) + (5 * x8))))] rfl rfl rfl ?_
        rw [show ((Int32.ofNat x8) + (1 : Int32)) = Int32.ofNat (x8 + 1) from (zN_a rfl rfl)]
        refine zW_gh 132 [some (.ref 75), none, some (.int (Int32.ofNat x2)), some (.int (zbi x3)), some (.int (Int32.ofNat x4)), none, none, some (.int (Int32.ofNat x7)), some (.int (Int32.ofNat (x8 + 1))), some (.int (Int32.ofNat ((x4 + 68) + (5 * x8))))] [] 1 (fun f => rfl) ?_
        refine zW_fg (L' := [some (.ref 75), none, some (.int (Int32.ofNat x2)), some (.int (zbi x3)), some (.int (Int32.ofNat x4)), none, none, some (.int (Int32.ofNat x7)), some (.int (Int32.ofNat (x8 + 1))), none]) (zle_s _ (zle_s _ (zle_s _ (zle_s _ (zle_s _ (zle_s _ (zle_s _ (zle_s _ (zle_s _ (zle_n _ zle_nil)))))))))) ?_
        exact H
      · have c9 : (0 : Int32) = (zbi x3) := (by simpa [zcmp] using c)
        replace H := H.2 c9
        refine zW_gh 188 [some (.ref 75), none, some (.int (Int32.ofNat x2)), some (.int (zbi x3)), some (.int (Int32.ofNat x4)), none, none, some (.int (Int32.ofNat x7)), some (.int (Int32.ofNat x8)), some (.int (Int32.ofNat ((x4 + 68) + (5 * x8))))] [.int (Int32.ofNat ((x4 + 68) + (5 * x8))), .ref 76, .int (3204 : Int32), .ref 75] 5 (fun f => rfl) ?_
        refine zW_iald rfl (by decide) rfl (by decide) rfl h2 ?_
        refine zW_gh 197 [some (.ref 75), none, some (.int (Int32.ofNat x2)), some (.int (zbi x3)), some (.int (Int32.ofNat x4)), none, none, some (.int (Int32.ofNat x7)), some (.int (Int32.ofNat x8)), some (.int (Int32.ofNat ((x4 + 68) + (5 * x8))))] [.int ((Int32.ofNat ((x4 + 68) + (5 * x8))) + (1 : Int32)), .ref 76, .int (m ((x4 + 68) + (5 * x8))), .int (3204 : Int32), .ref 75] 5 (fun f => rfl) ?_
        obtain ⟨h4, H⟩ := H
        refine zW_iald rfl (by decide) rfl (by decide) (zN_a rfl rfl) h4 ?_
        refine zW_gh 206 [some (.ref 75), none, some (.int (Int32.ofNat x2)), some (.int (zbi x3)), some (.int (Int32.ofNat x4)), none, none, some (.int (Int32.ofNat x7)), some (.int (Int32.ofNat x8)), some (.int (Int32.ofNat ((x4 + 68) + (5 * x8))))] [.int ((Int32.ofNat ((x4 + 68) + (5 * x8))) + (2 : Int32)), .ref 76, .int (m (((x4 + 68) + (5 * x8)) + 1)), .int (m ((x4 + 68) + (5 * x8))), .int (3204 : Int32), .ref 75] 5 (fun f => rfl) ?_
        obtain ⟨h5, H⟩ := H
        refine zW_iald rfl (by decide) rfl (by decide) (zN_a rfl rfl) h5 ?_
        refine zW_gh 215 [some (.ref 75), none, some (.int (Int32.ofNat x2)), some (.int (zbi x3)), some (.int (Int32.ofNat x4)), none, none, some (.int (Int32.ofNat x7)), some (.int (Int32.ofNat x8)), some (.int (Int32.ofNat ((x4 + 68) + (5 * x8))))] [.int ((Int32.ofNat ((x4 + 68) + (5 * x8))) + (3 : Int32)), .ref 76, .int (m (((x4 + 68) + (5 * x8)) + 2)), .int (m (((x4 + 68) + (5 * x8)) + 1)), .int (m ((x4 + 68) + (5 * x8))), .int (3204 : Int32), .ref 75] 5 (fun f => rfl) ?_
        obtain ⟨h6, H⟩ := H
        refine zW_iald rfl (by decide) rfl (by decide) (zN_a rfl rfl) h6 ?_
        refine zW_gh 224 [some (.ref 75), none, some (.int (Int32.ofNat x2)), some (.int (zbi x3)), some (.int (Int32.ofNat x4)), none, none, some (.int (Int32.ofNat x7)), some (.int (Int32.ofNat x8)), some (.int (Int32.ofNat ((x4 + 68) + (5 * x8))))] [.int ((Int32.ofNat ((x4 + 68) + (5 * x8))) + (4 : Int32)), .ref 76, .int (m (((x4 + 68) + (5 * x8)) + 3)), .int (m (((x4 + 68) + (5 * x8)) + 2)), .int (m (((x4 + 68) + (5 * x8)) + 1)), .int (m ((x4 + 68) + (5 * x8))), .int (3204 : Int32), .ref 75] 5 (fun f => rfl) ?_
        obtain ⟨h7, H⟩ := H
        refine zW_iald rfl (by decide) rfl (by decide) (zN_a rfl rfl) h7 ?_
        refine zW_fg (L' := [some (.ref 75), none, some (.int (Int32.ofNat x2)), some (.int (zbi x3)), some (.int (Int32.ofNat x4)), none, none, some (.int (Int32.ofNat x7)), some (.int (Int32.ofNat x8)), none]) (zle_s _ (zle_s _ (zle_s _ (zle_s _ (zle_s _ (zle_s _ (zle_s _ (zle_s _ (zle_s _ (zle_n _ zle_nil)))))))))) ?_
        exact zW_cl rfl rfl rfl rfl rfl H
    · have c9 : ¬ (m ((x4 + 68) + (5 * x8))) ≤ (2 : Int32) := (of_decide_eq_false c)
      replace H := H.2 c9
      refine zW_bh (zcmp .ne (1 : Int32) (zbi x3)) 231 178 [some (.ref 75), none, some (.int (Int32.ofNat x2)), some (.int (zbi x3)), some (.int (Int32.ofNat x4)), none, none, some (.int (Int32.ofNat x7)), some (.int (Int32.ofNat x8)), some (.int (Int32.ofNat ((x4 + 68) + (5 * x8))))] [] 4 (fun f => rfl) (fun c => ?_) (fun c => ?_)
      · have c9 : ¬ (1 : Int32) = (zbi x3) := (by simpa [zcmp] using c)
        replace H := H.1 c9
        refine zW_inc [some (.ref 75), none, some (.int (Int32.ofNat x2)), some (.int (zbi x3)), some (.int (Int32.ofNat x4)), none, none, some (.int (Int32.ofNat x7)), some (.int ((Int32.ofNat x8) + (1 : Int32))), some (.int (Int32.ofNat ((x4 + 68) + (5 * x8))))] rfl rfl rfl ?_
        rw [show ((Int32.ofNat x8) + (1 : Int32)) = Int32.ofNat (x8 + 1) from (zN_a rfl rfl)]
        refine zW_gh 132 [some (.ref 75), none, some (.int (Int32.ofNat x2)), some (.int (zbi x3)), some (.int (Int32.ofNat x4)), none, none, some (.int (Int32.ofNat x7)), some (.int (Int32.ofNat (x8 + 1))), some (.int (Int32.ofNat ((x4 + 68) + (5 * x8))))] [] 1 (fun f => rfl) ?_
        refine zW_fg (L' := [some (.ref 75), none, some (.int (Int32.ofNat x2)), some (.int (zbi x3)), some (.int (Int32.ofNat x4)), none, none, some (.int (Int32.ofNat x7)), some (.int (Int32.ofNat (x8 + 1))), none]) (zle_s _ (zle_s _ (zle_s _ (zle_s _ (zle_s _ (zle_s _ (zle_s _ (zle_s _ (zle_s _ (zle_n _ zle_nil)))))))))) ?_
        exact H
      · have c9 : (1 : Int32) = (zbi x3) := (by simpa [zcmp] using c)
        replace H := H.2 c9
        refine zW_gh 188 [some (.ref 75), none, some (.int (Int32.ofNat x2)), some (.int (zbi x3)), some (.int (Int32.ofNat x4)), none, none, some (.int (Int32.ofNat x7)), some (.int (Int32.ofNat x8)), some (.int (Int32.ofNat ((x4 + 68) + (5 * x8))))] [.int (Int32.ofNat ((x4 + 68) + (5 * x8))), .ref 76, .int (3204 : Int32), .ref 75] 5 (fun f => rfl) ?_
        refine zW_iald rfl (by decide) rfl (by decide) rfl h2 ?_
        refine zW_gh 197 [some (.ref 75), none, some (.int (Int32.ofNat x2)), some (.int (zbi x3)), some (.int (Int32.ofNat x4)), none, none, some (.int (Int32.ofNat x7)), some (.int (Int32.ofNat x8)), some (.int (Int32.ofNat ((x4 + 68) + (5 * x8))))] [.int ((Int32.ofNat ((x4 + 68) + (5 * x8))) + (1 : Int32)), .ref 76, .int (m ((x4 + 68) + (5 * x8))), .int (3204 : Int32), .ref 75] 5 (fun f => rfl) ?_
        obtain ⟨h9, H⟩ := H
        refine zW_iald rfl (by decide) rfl (by decide) (zN_a rfl rfl) h9 ?_
        refine zW_gh 206 [some (.ref 75), none, some (.int (Int32.ofNat x2)), some (.int (zbi x3)), some (.int (Int32.ofNat x4)), none, none, some (.int (Int32.ofNat x7)), some (.int (Int32.ofNat x8)), some (.int (Int32.ofNat ((x4 + 68) + (5 * x8))))] [.int ((Int32.ofNat ((x4 + 68) + (5 * x8))) + (2 : Int32)), .ref 76, .int (m (((x4 + 68) + (5 * x8)) + 1)), .int (m ((x4 + 68) + (5 * x8))), .int (3204 : Int32), .ref 75] 5 (fun f => rfl) ?_
        obtain ⟨h10, H⟩ := H
        refine zW_iald rfl (by decide) rfl (by decide) (zN_a rfl rfl) h10 ?_
        refine zW_gh 215 [some (.ref 75), none, some (.int (Int32.ofNat x2)), some (.int (zbi x3)), some (.int (Int32.ofNat x4)), none, none, some (.int (Int32.ofNat x7)), some (.int (Int32.ofNat x8)), some (.int (Int32.ofNat ((x4 + 68) + (5 * x8))))] [.int ((Int32.ofNat ((x4 + 68) + (5 * x8))) + (3 : Int32)), .ref 76, .int (m (((x4 + 68) + (5 * x8)) + 2)), .int (m (((x4 + 68) + (5 * x8)) + 1)), .int (m ((x4 + 68) + (5 * x8))), .int (3204 : Int32), .ref 75] 5 (fun f => rfl) ?_
        obtain ⟨h11, H⟩ := H
        refine zW_iald rfl (by decide) rfl (by decide) (zN_a rfl rfl) h11 ?_
        refine zW_gh 224 [some (.ref 75), none, some (.int (Int32.ofNat x2)), some (.int (zbi x3)), some (.int (Int32.ofNat x4)), none, none, some (.int (Int32.ofNat x7)), some (.int (Int32.ofNat x8)), some (.int (Int32.ofNat ((x4 + 68) + (5 * x8))))] [.int ((Int32.ofNat ((x4 + 68) + (5 * x8))) + (4 : Int32)), .ref 76, .int (m (((x4 + 68) + (5 * x8)) + 3)), .int (m (((x4 + 68) + (5 * x8)) + 2)), .int (m (((x4 + 68) + (5 * x8)) + 1)), .int (m ((x4 + 68) + (5 * x8))), .int (3204 : Int32), .ref 75] 5 (fun f => rfl) ?_
        obtain ⟨h12, H⟩ := H
        refine zW_iald rfl (by decide) rfl (by decide) (zN_a rfl rfl) h12 ?_
        refine zW_fg (L' := [some (.ref 75), none, some (.int (Int32.ofNat x2)), some (.int (zbi x3)), some (.int (Int32.ofNat x4)), none, none, some (.int (Int32.ofNat x7)), some (.int (Int32.ofNat x8)), none]) (zle_s _ (zle_s _ (zle_s _ (zle_s _ (zle_s _ (zle_s _ (zle_s _ (zle_s _ (zle_s _ (zle_n _ zle_nil)))))))))) ?_
        exact zW_cl rfl rfl rfl rfl rfl H
set_option maxRecDepth 20000 in
theorem b182_245 {K : zKt} {code rf rs pr pn : Int32} {bad : Bool} {J : zJt} {m pa pb pc vf vs : Nat → Int32} {B : zBt} {w : Nat → Int64} {p : Nat × Nat} {Q : zR → zH → Prop} {rv : Int32} (H : Q (.inl (some (.int rv))) (zh K (code, rf, rs, bad, pr, pn, J) (m, pa, pb, pc, vf, vs, B) w)) : zW zm_182 245 [none, none, none, none, none, none, none, none, none, none] [.int rv] p (zh K (code, rf, rs, bad, pr, pn, J) (m, pa, pb, pc, vf, vs, B) w) Q := by
  exact zW_rh (some (.int rv)) 1 (fun f => rfl) H
set_option maxRecDepth 20000 in
theorem b182_228 {K : zKt} {code rf rs pr pn : Int32} {bad : Bool} {J : zJt} {m pa pb pc vf vs : Nat → Int32} {B : zBt} {w : Nat → Int64} {p : Nat × Nat} {Q : zR → zH → Prop} {x2 x4 x7 x8 : Nat} {x3 : Bool} (H : zW zm_182 132 [some (.ref 75), none, some (.int (Int32.ofNat x2)), some (.int (zbi x3)), some (.int (Int32.ofNat x4)), none, none, some (.int (Int32.ofNat (x7 + 1))), some (.int (Int32.ofNat (x8 + 1))), none] [] p (zh K (code, rf, rs, bad, pr, pn, J) (m, pa, pb, pc, vf, vs, B) w) Q) : zW zm_182 228 [some (.ref 75), none, some (.int (Int32.ofNat x2)), some (.int (zbi x3)), some (.int (Int32.ofNat x4)), none, none, some (.int (Int32.ofNat x7)), some (.int (Int32.ofNat x8)), none] [] p (zh K (code, rf, rs, bad, pr, pn, J) (m, pa, pb, pc, vf, vs, B) w) Q := by
  refine zW_inc [some (.ref 75), none, some (.int (Int32.ofNat x2)), some (.int (zbi x3)), some (.int (Int32.ofNat x4)), none, none, some (.int ((Int32.ofNat x7) + (1 : Int32))), some (.int (Int32.ofNat x8)), none] rfl rfl rfl ?_
  rw [show ((Int32.ofNat x7) + (1 : Int32)) = Int32.ofNat (x7 + 1) from (zN_a rfl rfl)]
  refine zW_inc [some (.ref 75), none, some (.int (Int32.ofNat x2)), some (.int (zbi x3)), some (.int (Int32.ofNat x4)), none, none, some (.int (Int32.ofNat (x7 + 1))), some (.int ((Int32.ofNat x8) + (1 : Int32))), none] rfl rfl rfl ?_
  rw [show ((Int32.ofNat x8) + (1 : Int32)) = Int32.ofNat (x8 + 1) from (zN_a rfl rfl)]
  refine zW_gh 132 [some (.ref 75), none, some (.int (Int32.ofNat x2)), some (.int (zbi x3)), some (.int (Int32.ofNat x4)), none, none, some (.int (Int32.ofNat (x7 + 1))), some (.int (Int32.ofNat (x8 + 1))), none] [] 1 (fun f => rfl) ?_
  exact H
theorem b183 {K : zKt} {code rf rs pr pn : Int32} {bad : Bool} {J : zJt} {m pa pb pc vf vs : Nat → Int32} {B : zBt} {w : Nat → Int64} {p : Nat × Nat} {Q : zR → zH → Prop} {a0 : Int32} (H : zT zm_169 [.ref 75, .int a0] p (zh K (code, rf, rs, bad, pr, pn, J) (m, pa, pb, pc, vf, vs, B) w) (zK zm_183 5 [some (.ref 75), some (.int a0), none, none] [] p Q)) : zT zm_183 [.ref 75, .int a0] p (zh K (code, rf, rs, bad, pr, pn, J) (m, pa, pb, pc, vf, vs, B) w) Q := by
  change zW zm_183 0 [some (.ref 75), some (.int a0), none, none] [] p _ Q
  refine zW_gh 2 [some (.ref 75), some (.int a0), none, none] [.int a0, .ref 75] 2 (fun f => rfl) ?_
  exact zW_cl rfl rfl rfl rfl rfl H
theorem b183_5 {K : zKt} {code rf rs pr pn : Int32} {bad : Bool} {J : zJt} {m pa pb pc vf vs : Nat → Int32} {B : zBt} {w : Nat → Int64} {p : Nat × Nat} {Q : zR → zH → Prop} {x1 rv : Int32} (H : ((rv ≤ (0 : Int32) → zT zm_173 [.ref 75, .int x1] p (zh K (code, rf, rs, bad, pr, pn, J) (m, pa, pb, pc, vf, vs, B) w) (zK zm_183 21 [some (.ref 75), some (.int x1), none, none] [] p Q)) ∧ (¬ rv ≤ (0 : Int32) → Q (.inl (some (.int (0 : Int32)))) (zh K (rv, rf, rs, bad, pr, pn, J) (m, pa, pb, pc, vf, vs, B) w)))) : zW zm_183 5 [some (.ref 75), some (.int x1), none, none] [.int rv] p (zh K (code, rf, rs, bad, pr, pn, J) (m, pa, pb, pc, vf, vs, B) w) Q := by
  refine zW_bh (zcmp .le rv (0 : Int32)) 16 10 [some (.ref 75), some (.int x1), some (.int rv), none] [] 3 (fun f => rfl) (fun c => ?_) (fun c => ?_)
  · have c9 : rv ≤ (0 : Int32) := (of_decide_eq_true c)
    replace H := H.1 c9
    refine zW_gh 18 [some (.ref 75), some (.int x1), some (.int rv), none] [.int x1, .ref 75] 2 (fun f => rfl) ?_
    refine zW_fg (L' := [some (.ref 75), some (.int x1), none, none]) (zle_s _ (zle_s _ (zle_n _ (zle_s _ zle_nil)))) ?_
    exact zW_cl rfl rfl rfl rfl rfl H
  · have c9 : ¬ rv ≤ (0 : Int32) := (of_decide_eq_false c)
    replace H := H.2 c9
    refine zW_gh 12 [some (.ref 75), some (.int x1), some (.int rv), none] [.int rv, .ref 75] 2 (fun f => rfl) ?_
    refine zW_cl rfl rfl rfl rfl rfl (s142 ?_)
    change zW zm_183 15 [some (.ref 75), some (.int x1), some (.int rv), none] [.int (0 : Int32)] p _ Q
    exact zW_rh (some (.int (0 : Int32))) 1 (fun f => rfl) H
theorem b183_21 {K : zKt} {code rf rs pr pn : Int32} {bad : Bool} {J : zJt} {m pa pb pc vf vs : Nat → Int32} {B : zBt} {w : Nat → Int64} {p : Nat × Nat} {Q : zR → zH → Prop} {x1 : Int32} (H : zT zm_184 [.ref 75, .int (3204 : Int32)] p (zh K (code, rf, rs, bad, pr, pn, J) (m, pa, pb, pc, vf, vs, B) w) (zK zm_183 28 [some (.ref 75), some (.int x1), none, none] [] p Q)) : zW zm_183 21 [some (.ref 75), some (.int x1), none, none] [] p (zh K (code, rf, rs, bad, pr, pn, J) (m, pa, pb, pc, vf, vs, B) w) Q := by
  refine zW_gh 25 [some (.ref 75), some (.int x1), none, none] [.int (3204 : Int32), .ref 75] 2 (fun f => rfl) ?_
  exact zW_cl rfl rfl rfl rfl rfl H
theorem b183_28 {K : zKt} {code rf rs pr pn : Int32} {bad : Bool} {J : zJt} {m pa pb pc vf vs : Nat → Int32} {B : zBt} {w : Nat → Int64} {p : Nat × Nat} {Q : zR → zH → Prop} {x1 rv : Int32} (H : zT zm_162 [.ref 75, .int x1, .int rv, .int (3 : Int32)] p (zh K (code, rf, rs, bad, pr, pn, J) (m, pa, pb, pc, vf, vs, B) w) (zK zm_183 36 [none, none, none, none] [] p Q)) : zW zm_183 28 [some (.ref 75), some (.int x1), none, none] [.int rv] p (zh K (code, rf, rs, bad, pr, pn, J) (m, pa, pb, pc, vf, vs, B) w) Q := by
  refine zW_gh 33 [some (.ref 75), some (.int x1), none, some (.int rv)] [.int (3 : Int32), .int rv, .int x1, .ref 75] 5 (fun f => rfl) ?_
  refine zW_fg (L' := [none, none, none, none]) (zle_n _ (zle_n _ (zle_s _ (zle_n _ zle_nil)))) ?_
  exact zW_cl rfl rfl rfl rfl rfl H
theorem b183_36 {K : zKt} {code rf rs pr pn : Int32} {bad : Bool} {J : zJt} {m pa pb pc vf vs : Nat → Int32} {B : zBt} {w : Nat → Int64} {p : Nat × Nat} {Q : zR → zH → Prop} {rv : Int32} (H : Q (.inl (some (.int rv))) (zh K (code, rf, rs, bad, pr, pn, J) (m, pa, pb, pc, vf, vs, B) w)) : zW zm_183 36 [none, none, none, none] [.int rv] p (zh K (code, rf, rs, bad, pr, pn, J) (m, pa, pb, pc, vf, vs, B) w) Q := by
  exact zW_rh (some (.int rv)) 1 (fun f => rfl) H
theorem b199 {K : zKt} {code rf rs pr pn : Int32} {bad : Bool} {J : zJt} {m pa pb pc vf vs : Nat → Int32} {B : zBt} {w : Nat → Int64} {p : Nat × Nat} {Q : zR → zH → Prop} {a0 : Int32} (H : zT zm_169 [.ref 75, .int a0] p (zh K (code, rf, rs, bad, pr, pn, J) (m, pa, pb, pc, vf, vs, B) w) (zK zm_199 5 [some (.ref 75), some (.int a0), none, none] [] p Q)) : zT zm_199 [.ref 75, .int a0] p (zh K (code, rf, rs, bad, pr, pn, J) (m, pa, pb, pc, vf, vs, B) w) Q := by
  change zW zm_199 0 [some (.ref 75), some (.int a0), none, none] [] p _ Q
  refine zW_gh 2 [some (.ref 75), some (.int a0), none, none] [.int a0, .ref 75] 2 (fun f => rfl) ?_
  exact zW_cl rfl rfl rfl rfl rfl H
theorem b199_5 {K : zKt} {code rf rs pr pn : Int32} {bad : Bool} {J : zJt} {m pa pb pc vf vs : Nat → Int32} {B : zBt} {w : Nat → Int64} {p : Nat × Nat} {Q : zR → zH → Prop} {x1 rv : Int32} (H : ((rv ≤ (0 : Int32) → zT zm_173 [.ref 75, .int x1] p (zh K (code, rf, rs, bad, pr, pn, J) (m, pa, pb, pc, vf, vs, B) w) (zK zm_199 21 [some (.ref 75), some (.int x1), none, none] [] p Q)) ∧ (¬ rv ≤ (0 : Int32) → Q (.inl (some (.int (0 : Int32)))) (zh K (rv, rf, rs, bad, pr, pn, J) (m, pa, pb, pc, vf, vs, B) w)))) : zW zm_199 5 [some (.ref 75), some (.int x1), none, none] [.int rv] p (zh K (code, rf, rs, bad, pr, pn, J) (m, pa, pb, pc, vf, vs, B) w) Q := by
  refine zW_bh (zcmp .le rv (0 : Int32)) 16 10 [some (.ref 75), some (.int x1), some (.int rv), none] [] 3 (fun f => rfl) (fun c => ?_) (fun c => ?_)
  · have c9 : rv ≤ (0 : Int32) := (of_decide_eq_true c)
    replace H := H.1 c9
    refine zW_gh 18 [some (.ref 75), some (.int x1), some (.int rv), none] [.int x1, .ref 75] 2 (fun f => rfl) ?_
    refine zW_fg (L' := [some (.ref 75), some (.int x1), none, none]) (zle_s _ (zle_s _ (zle_n _ (zle_s _ zle_nil)))) ?_
    exact zW_cl rfl rfl rfl rfl rfl H
  · have c9 : ¬ rv ≤ (0 : Int32) := (of_decide_eq_false c)
    replace H := H.2 c9
    refine zW_gh 12 [some (.ref 75), some (.int x1), some (.int rv), none] [.int rv, .ref 75] 2 (fun f => rfl) ?_
    refine zW_cl rfl rfl rfl rfl rfl (s142 ?_)
    change zW zm_199 15 [some (.ref 75), some (.int x1), some (.int rv), none] [.int (0 : Int32)] p _ Q
    exact zW_rh (some (.int (0 : Int32))) 1 (fun f => rfl) H
theorem b199_21 {K : zKt} {code rf rs pr pn : Int32} {bad : Bool} {J : zJt} {m pa pb pc vf vs : Nat → Int32} {B : zBt} {w : Nat → Int64} {p : Nat × Nat} {Q : zR → zH → Prop} {x1 : Int32} (H : zT zm_200 [.ref 75, .int (3204 : Int32)] p (zh K (code, rf, rs, bad, pr, pn, J) (m, pa, pb, pc, vf, vs, B) w) (zK zm_199 28 [some (.ref 75), some (.int x1), none, none] [] p Q)) : zW zm_199 21 [some (.ref 75), some (.int x1), none, none] [] p (zh K (code, rf, rs, bad, pr, pn, J) (m, pa, pb, pc, vf, vs, B) w) Q := by
  refine zW_gh 25 [some (.ref 75), some (.int x1), none, none] [.int (3204 : Int32), .ref 75] 2 (fun f => rfl) ?_
  exact zW_cl rfl rfl rfl rfl rfl H
theorem b199_28 {K : zKt} {code rf rs pr pn : Int32} {bad : Bool} {J : zJt} {m pa pb pc vf vs : Nat → Int32} {B : zBt} {w : Nat → Int64} {p : Nat × Nat} {Q : zR → zH → Prop} {x1 rv : Int32} (H : zT zm_162 [.ref 75, .int x1, .int rv, .int (3 : Int32)] p (zh K (code, rf, rs, bad, pr, pn, J) (m, pa, pb, pc, vf, vs, B) w) (zK zm_199 36 [none, none, none, none] [] p Q)) : zW zm_199 28 [some (.ref 75), some (.int x1), none, none] [.int rv] p (zh K (code, rf, rs, bad, pr, pn, J) (m, pa, pb, pc, vf, vs, B) w) Q := by
  refine zW_gh 33 [some (.ref 75), some (.int x1), none, some (.int rv)] [.int (3 : Int32), .int rv, .int x1, .ref 75] 5 (fun f => rfl) ?_
  refine zW_fg (L' := [none, none, none, none]) (zle_n _ (zle_n _ (zle_s _ (zle_n _ zle_nil)))) ?_
  exact zW_cl rfl rfl rfl rfl rfl H
theorem b199_36 {K : zKt} {code rf rs pr pn : Int32} {bad : Bool} {J : zJt} {m pa pb pc vf vs : Nat → Int32} {B : zBt} {w : Nat → Int64} {p : Nat × Nat} {Q : zR → zH → Prop} {rv : Int32} (H : Q (.inl (some (.int rv))) (zh K (code, rf, rs, bad, pr, pn, J) (m, pa, pb, pc, vf, vs, B) w)) : zW zm_199 36 [none, none, none, none] [.int rv] p (zh K (code, rf, rs, bad, pr, pn, J) (m, pa, pb, pc, vf, vs, B) w) Q := by
  exact zW_rh (some (.int rv)) 1 (fun f => rfl) H
theorem b205 {K : zKt} {code rf rs pr pn : Int32} {bad : Bool} {J : zJt} {m pa pb pc vf vs : Nat → Int32} {B : zBt} {w : Nat → Int64} {p : Nat × Nat} {Q : zR → zH → Prop} {a0 a1 a2 : Int32} (H : (((zslot a0) = false → Q (.inl (some (.int (0 : Int32)))) (zh K ((1 : Int32), rf, rs, bad, pr, pn, J) (m, pa, pb, pc, vf, vs, B) w)) ∧ ((zslot a0) = true → ∀ k_a0, k_a0 < 3 → a0 = Int32.ofNat k_a0 → (1068 * k_a0 < 5340 ∧ (((decide (m (1068 * k_a0) = -1)) = false → (((1068 * k_a0) + 3) < 5340 ∧ (((zin ((a1).toInt64) (0 : Int64) ((((m ((1068 * k_a0) + 3)) - (1 : Int32))).toInt64)) = true → ∀ k_a1, k_a1 < 2147483648 → a1 = Int32.ofNat k_a1 → (((zin ((a2).toInt64) (0 : Int64) (4 : Int64)) = false → Q (.inl (some (.int (0 : Int32)))) (zh K ((2 : Int32), rf, rs, bad, pr, pn, J) (m, pa, pb, pc, vf, vs, B) w)) ∧ ((zin ((a2).toInt64) (0 : Int64) (4 : Int64)) = true → ∀ k_a2, 0 ≤ k_a2 ∧ k_a2 ≤ 4 → a2 = Int32.ofNat k_a2 → (((((1068 * k_a0) + 68) + (5 * k_a1)) + k_a2) < 5340 ∧ Q (.inl (some (.int (m ((((1068 * k_a0) + 68) + (5 * k_a1)) + k_a2))))) (zh K ((0 : Int32), rf, rs, bad, pr, pn, J) (m, pa, pb, pc, vf, vs, B) w))))) ∧ ((zin ((a1).toInt64) (0 : Int64) ((((m ((1068 * k_a0) + 3)) - (1 : Int32))).toInt64)) = false → Q (.inl (some (.int (0 : Int32)))) (zh K ((1 : Int32), rf, rs, bad, pr, pn, J) (m, pa, pb, pc, vf, vs, B) w))))) ∧ ((decide (m (1068 * k_a0) = -1)) = true → (((zin ((a1).toInt64) (0 : Int64) (-1 : Int64)) = true → (((zin ((a2).toInt64) (0 : Int64) (4 : Int64)) = false → Q (.inl (some (.int (0 : Int32)))) (zh K ((2 : Int32), rf, rs, bad, pr, pn, J) (m, pa, pb, pc, vf, vs, B) w)) ∧ ((zin ((a2).toInt64) (0 : Int64) (4 : Int64)) = true → ∀ k_a2, 0 ≤ k_a2 ∧ k_a2 ≤ 4 → a2 = Int32.ofNat k_a2 → (∃ j4, (((((1068 : Int32) * (Int32.ofNat k_a0)) + (68 : Int32)) + ((5 : Int32) * a1)) + (Int32.ofNat k_a2)) = Int32.ofNat j4 ∧ (j4 < 5340 ∧ Q (.inl (some (.int (m j4)))) (zh K ((0 : Int32), rf, rs, bad, pr, pn, J) (m, pa, pb, pc, vf, vs, B) w)))))) ∧ ((zin ((a1).toInt64) (0 : Int64) (-1 : Int64)) = false → Q (.inl (some (.int (0 : Int32)))) (zh K ((1 : Int32), rf, rs, bad, pr, pn, J) (m, pa, pb, pc, vf, vs, B) w))))))))) : zT zm_205 [.ref 75, .int a0, .int a1, .int a2] p (zh K (code, rf, rs, bad, pr, pn, J) (m, pa, pb, pc, vf, vs, B) w) Q := by
  change zW zm_205 0 [some (.ref 75), some (.int a0), some (.int a1), some (.int a2)] [] p _ Q
  refine zW_gh 2 [some (.ref 75), some (.int a0), some (.int a1), some (.int a2)] [.int (0 : Int32), .ref 75] 2 (fun f => rfl) ?_
  refine zW_go (pc' := 5) (L' := [some (.ref 75), some (.int a0), some (.int a1), some (.int a2)]) (st' := []) (h' := (va_up (zh K (code, rf, rs, bad, pr, pn, J) (m, pa, pb, pc, vf, vs, B) w) 75 (.inr (7, zfl ((0 : Int32), rf, rs, bad, pr, pn, J))))) 1 (fun f => rfl) ?_
  refine zW_eq zu_75 ?_
  refine zW_gh 6 [some (.ref 75), some (.int a0), some (.int a1), some (.int a2)] [.int a0] 1 (fun f => rfl) ?_
  refine zW_cl rfl rfl rfl rfl rfl (s140 ?_)
  change zW zm_205 9 [some (.ref 75), some (.int a0), some (.int a1), some (.int a2)] [.int (zbi (zslot a0))] p _ Q
  refine zW_bh (zcmp .eq (zbi (zslot a0)) (0 : Int32)) 50 12 [some (.ref 75), some (.int a0), some (.int a1), some (.int a2)] [] 1 (fun f => rfl) (fun c => ?_) (fun c => ?_)
  · have c9 : (zslot a0) = false := ((Bool.not_eq_true' _).mp ((zcB_eq _).symm.trans c))
    replace H := H.1 c9
    refine zW_gh 52 [some (.ref 75), some (.int a0), some (.int a1), some (.int a2)] [.int (1 : Int32), .ref 75] 2 (fun f => rfl) ?_
    refine zW_cl rfl rfl rfl rfl rfl (s142 ?_)
    change zW zm_205 55 [some (.ref 75), some (.int a0), some (.int a1), some (.int a2)] [.int (0 : Int32)] p _ Q
    exact zW_rh (some (.int (0 : Int32))) 1 (fun f => rfl) H
  · have c9 : (zslot a0) = true := ((Bool.not_eq_false' _).mp ((zcB_eq _).symm.trans c))
    replace H := H.2 c9
    obtain ⟨k_a0, h_k_a0, e_k_a0⟩ := zslot_n c9
    replace H := H k_a0 h_k_a0 e_k_a0
    subst e_k_a0
    refine zW_gh 17 [some (.ref 75), some (.int (Int32.ofNat k_a0)), some (.int a1), some (.int a2)] [.int (Int32.ofNat k_a0), .ref 75, .long (0 : Int64), .long ((a1).toInt64)] 5 (fun f => rfl) ?_
    obtain ⟨h1, H⟩ := H
    refine zW_cl rfl rfl rfl rfl rfl ((s144 rfl) h1 ?_)
    change zW zm_205 20 [some (.ref 75), some (.int (Int32.ofNat k_a0)), some (.int a1), some (.int a2)] [.int (zbi (decide (m (1068 * k_a0) = -1))), .long (0 : Int64), .long ((a1).toInt64)] p _ Q
    refine zW_bh (zcmp .eq (zbi (decide (m (1068 * k_a0) = -1))) (0 : Int32)) 29 23 [some (.ref 75), some (.int (Int32.ofNat k_a0)), some (.int a1), some (.int a2)] [.long (0 : Int64), .long ((a1).toInt64)] 1 (fun f => rfl) (fun c => ?_) (fun c => ?_)
    · have c9 : (decide (m (1068 * k_a0) = -1)) = false := ((Bool.not_eq_true' _).mp ((zcB_eq _).symm.trans c))
      replace H := H.1 c9
      refine zW_gh 40 [some (.ref 75), some (.int (Int32.ofNat k_a0)), some (.int a1), some (.int a2)] [.int (((1068 : Int32) * (Int32.ofNat k_a0)) + (3 : Int32)), .ref 76, .long (0 : Int64), .long ((a1).toInt64)] 7 (fun f => rfl) ?_
      obtain ⟨h2, H⟩ := H
      refine zW_iald rfl (by decide) rfl (by decide) (zN_a (zN_m rfl rfl) rfl) h2 ?_
      refine zW_gh 44 [some (.ref 75), some (.int (Int32.ofNat k_a0)), some (.int a1), some (.int a2)] [.long ((((m ((1068 * k_a0) + 3)) - (1 : Int32))).toInt64), .long (0 : Int64), .long ((a1).toInt64)] 3 (fun f => rfl) ?_
      refine zW_cl rfl rfl rfl rfl rfl (s141 ?_)
      change zW zm_205 47 [some (.ref 75), some (.int (Int32.ofNat k_a0)), some (.int a1), some (.int a2)] [.int (zbi (zin ((a1).toInt64) (0 : Int64) ((((m ((1068 * k_a0) + 3)) - (1 : Int32))).toInt64)))] p _ Q
      refine zW_bh (zcmp .ne (zbi (zin ((a1).toInt64) (0 : Int64) ((((m ((1068 * k_a0) + 3)) - (1 : Int32))).toInt64))) (0 : Int32)) 56 50 [some (.ref 75), some (.int (Int32.ofNat k_a0)), some (.int a1), some (.int a2)] [] 1 (fun f => rfl) (fun c => ?_) (fun c => ?_)
      · have c9 : (zin ((a1).toInt64) (0 : Int64) ((((m ((1068 * k_a0) + 3)) - (1 : Int32))).toInt64)) = true := ((zcB_ne _).symm.trans c)
        replace H := H.1 c9
        obtain ⟨k_a1, h_k_a1, e_k_a1⟩ := zin_b (by decide) c9
        replace H := H k_a1 h_k_a1 e_k_a1
        subst e_k_a1
        refine zW_gh 62 [some (.ref 75), some (.int (Int32.ofNat k_a0)), some (.int (Int32.ofNat k_a1)), some (.int a2)] [.long (4 : Int64), .long (0 : Int64), .long ((a2).toInt64)] 4 (fun f => rfl) ?_
        refine zW_cl rfl rfl rfl rfl rfl (s141 ?_)
        change zW zm_205 65 [some (.ref 75), some (.int (Int32.ofNat k_a0)), some (.int (Int32.ofNat k_a1)), some (.int a2)] [.int (zbi (zin ((a2).toInt64) (0 : Int64) (4 : Int64)))] p _ Q
        refine zW_bh (zcmp .eq (zbi (zin ((a2).toInt64) (0 : Int64) (4 : Int64))) (0 : Int32)) 90 68 [some (.ref 75), some (.int (Int32.ofNat k_a0)), some (.int (Int32.ofNat k_a1)), some (.int a2)] [] 1 (fun f => rfl) (fun c => ?_) (fun c => ?_)
        · have c9 : (zin ((a2).toInt64) (0 : Int64) (4 : Int64)) = false := ((Bool.not_eq_true' _).mp ((zcB_eq _).symm.trans c))
          replace H := H.1 c9
          refine zW_gh 92 [some (.ref 75), some (.int (Int32.ofNat k_a0)), some (.int (Int32.ofNat k_a1)), some (.int a2)] [.int (2 : Int32), .ref 75] 2 (fun f => rfl) ?_
          refine zW_cl rfl rfl rfl rfl rfl (s142 ?_)
          change zW zm_205 95 [some (.ref 75), some (.int (Int32.ofNat k_a0)), some (.int (Int32.ofNat k_a1)), some (.int a2)] [.int (0 : Int32)] p _ Q
          exact zW_rh (some (.int (0 : Int32))) 1 (fun f => rfl) H
        · have c9 : (zin ((a2).toInt64) (0 : Int64) (4 : Int64)) = true := ((Bool.not_eq_false' _).mp ((zcB_eq _).symm.trans c))
          replace H := H.2 c9
          obtain ⟨k_a2, h_k_a2, e_k_a2⟩ := zin_k (l := 0) (h := 4) (by decide) (by decide) c9
          replace H := H k_a2 h_k_a2 e_k_a2
          subst e_k_a2
          refine zW_gh 82 [some (.ref 75), some (.int (Int32.ofNat k_a0)), some (.int (Int32.ofNat k_a1)), some (.int (Int32.ofNat k_a2))] [.int (Int32.ofNat k_a1), .int (5 : Int32), .int (((1068 : Int32) * (Int32.ofNat k_a0)) + (68 : Int32)), .ref 76] 9 (fun f => rfl) ?_
          refine zW_gh 86 [some (.ref 75), some (.int (Int32.ofNat k_a0)), some (.int (Int32.ofNat k_a1)), some (.int (Int32.ofNat k_a2))] [.int (((((1068 : Int32) * (Int32.ofNat k_a0)) + (68 : Int32)) + ((5 : Int32) * (Int32.ofNat k_a1))) + (Int32.ofNat k_a2)), .ref 76] 4 (fun f => rfl) ?_
          obtain ⟨h3, H⟩ := H
          refine zW_iald rfl (by decide) rfl (by decide) (zN_a (zN_a (zN_a (zN_m rfl rfl) rfl) (zN_m rfl rfl)) rfl) h3 ?_
          refine zW_gh 95 [some (.ref 75), some (.int (Int32.ofNat k_a0)), some (.int (Int32.ofNat k_a1)), some (.int (Int32.ofNat k_a2))] [.int (m ((((1068 * k_a0) + 68) + (5 * k_a1)) + k_a2))] 1 (fun f => rfl) ?_
          exact zW_rh (some (.int (m ((((1068 * k_a0) + 68) + (5 * k_a1)) + k_a2)))) 1 (fun f => rfl) H
      · have c9 : (zin ((a1).toInt64) (0 : Int64) ((((m ((1068 * k_a0) + 3)) - (1 : Int32))).toInt64)) = false := ((zcB_ne _).symm.trans c)
        replace H := H.2 c9
        refine zW_gh 52 [some (.ref 75), some (.int (Int32.ofNat k_a0)), some (.int a1), some (.int a2)] [.int (1 : Int32), .ref 75] 2 (fun f => rfl) ?_
        refine zW_cl rfl rfl rfl rfl rfl (s142 ?_)
        change zW zm_205 55 [some (.ref 75), some (.int (Int32.ofNat k_a0)), some (.int a1), some (.int a2)] [.int (0 : Int32)] p _ Q
        exact zW_rh (some (.int (0 : Int32))) 1 (fun f => rfl) H
    · have c9 : (decide (m (1068 * k_a0) = -1)) = true := ((Bool.not_eq_false' _).mp ((zcB_eq _).symm.trans c))
      replace H := H.2 c9
      refine zW_gh 44 [some (.ref 75), some (.int (Int32.ofNat k_a0)), some (.int a1), some (.int a2)] [.long (-1 : Int64), .long (0 : Int64), .long ((a1).toInt64)] 2 (fun f => rfl) ?_
      refine zW_cl rfl rfl rfl rfl rfl (s141 ?_)
      change zW zm_205 47 [some (.ref 75), some (.int (Int32.ofNat k_a0)), some (.int a1), some (.int a2)] [.int (zbi (zin ((a1).toInt64) (0 : Int64) (-1 : Int64)))] p _ Q
      refine zW_bh (zcmp .ne (zbi (zin ((a1).toInt64) (0 : Int64) (-1 : Int64))) (0 : Int32)) 56 50 [some (.ref 75), some (.int (Int32.ofNat k_a0)), some (.int a1), some (.int a2)] [] 1 (fun f => rfl) (fun c => ?_) (fun c => ?_)
      · have c9 : (zin ((a1).toInt64) (0 : Int64) (-1 : Int64)) = true := ((zcB_ne _).symm.trans c)
        replace H := H.1 c9
        refine zW_gh 62 [some (.ref 75), some (.int (Int32.ofNat k_a0)), some (.int a1), some (.int a2)] [.long (4 : Int64), .long (0 : Int64), .long ((a2).toInt64)] 4 (fun f => rfl) ?_
        refine zW_cl rfl rfl rfl rfl rfl (s141 ?_)
        change zW zm_205 65 [some (.ref 75), some (.int (Int32.ofNat k_a0)), some (.int a1), some (.int a2)] [.int (zbi (zin ((a2).toInt64) (0 : Int64) (4 : Int64)))] p _ Q
        refine zW_bh (zcmp .eq (zbi (zin ((a2).toInt64) (0 : Int64) (4 : Int64))) (0 : Int32)) 90 68 [some (.ref 75), some (.int (Int32.ofNat k_a0)), some (.int a1), some (.int a2)] [] 1 (fun f => rfl) (fun c => ?_) (fun c => ?_)
        · have c9 : (zin ((a2).toInt64) (0 : Int64) (4 : Int64)) = false := ((Bool.not_eq_true' _).mp ((zcB_eq _).symm.trans c))
          replace H := H.1 c9
          refine zW_gh 92 [some (.ref 75), some (.int (Int32.ofNat k_a0)), some (.int a1), some (.int a2)] [.int (2 : Int32), .ref 75] 2 (fun f => rfl) ?_
          refine zW_cl rfl rfl rfl rfl rfl (s142 ?_)
          change zW zm_205 95 [some (.ref 75), some (.int (Int32.ofNat k_a0)), some (.int a1), some (.int a2)] [.int (0 : Int32)] p _ Q
          exact zW_rh (some (.int (0 : Int32))) 1 (fun f => rfl) H
        · have c9 : (zin ((a2).toInt64) (0 : Int64) (4 : Int64)) = true := ((Bool.not_eq_false' _).mp ((zcB_eq _).symm.trans c))
          replace H := H.2 c9
          obtain ⟨k_a2, h_k_a2, e_k_a2⟩ := zin_k (l := 0) (h := 4) (by decide) (by decide) c9
          replace H := H k_a2 h_k_a2 e_k_a2
          subst e_k_a2
          refine zW_gh 82 [some (.ref 75), some (.int (Int32.ofNat k_a0)), some (.int a1), some (.int (Int32.ofNat k_a2))] [.int a1, .int (5 : Int32), .int (((1068 : Int32) * (Int32.ofNat k_a0)) + (68 : Int32)), .ref 76] 9 (fun f => rfl) ?_
          refine zW_gh 86 [some (.ref 75), some (.int (Int32.ofNat k_a0)), some (.int a1), some (.int (Int32.ofNat k_a2))] [.int (((((1068 : Int32) * (Int32.ofNat k_a0)) + (68 : Int32)) + ((5 : Int32) * a1)) + (Int32.ofNat k_a2)), .ref 76] 4 (fun f => rfl) ?_
          obtain ⟨j4, e_j4, H⟩ := H
          obtain ⟨h5, H⟩ := H
          refine zW_iald rfl (by decide) rfl (by decide) e_j4 h5 ?_
          refine zW_gh 95 [some (.ref 75), some (.int (Int32.ofNat k_a0)), some (.int a1), some (.int (Int32.ofNat k_a2))] [.int (m j4)] 1 (fun f => rfl) ?_
          exact zW_rh (some (.int (m j4))) 1 (fun f => rfl) H
      · have c9 : (zin ((a1).toInt64) (0 : Int64) (-1 : Int64)) = false := ((zcB_ne _).symm.trans c)
        replace H := H.2 c9
        refine zW_gh 52 [some (.ref 75), some (.int (Int32.ofNat k_a0)), some (.int a1), some (.int a2)] [.int (1 : Int32), .ref 75] 2 (fun f => rfl) ?_
        refine zW_cl rfl rfl rfl rfl rfl (s142 ?_)
        change zW zm_205 55 [some (.ref 75), some (.int (Int32.ofNat k_a0)), some (.int a1), some (.int a2)] [.int (0 : Int32)] p _ Q
        exact zW_rh (some (.int (0 : Int32))) 1 (fun f => rfl) H
theorem b206 {K : zKt} {code rf rs pr pn : Int32} {bad : Bool} {J : zJt} {m pa pb pc vf vs : Nat → Int32} {B : zBt} {w : Nat → Int64} {p : Nat × Nat} {Q : zR → zH → Prop} {a0 a1 a2 a3 a4 : Int32} (H : zT zm_169 [.ref 75, .int a0] p (zh K (code, rf, rs, bad, pr, pn, J) (m, pa, pb, pc, vf, vs, B) w) (zK zm_206 5 [some (.ref 75), some (.int a0), some (.int a1), some (.int a2), some (.int a3), some (.int a4), none] [] p Q)) : zT zm_206 [.ref 75, .int a0, .int a1, .int a2, .int a3, .int a4] p (zh K (code, rf, rs, bad, pr, pn, J) (m, pa, pb, pc, vf, vs, B) w) Q := by
  change zW zm_206 0 [some (.ref 75), some (.int a0), some (.int a1), some (.int a2), some (.int a3), some (.int a4), none] [] p _ Q
  refine zW_gh 2 [some (.ref 75), some (.int a0), some (.int a1), some (.int a2), some (.int a3), some (.int a4), none] [.int a0, .ref 75] 2 (fun f => rfl) ?_
  exact zW_cl rfl rfl rfl rfl rfl H
theorem b206_5 {K : zKt} {code rf rs pr pn : Int32} {bad : Bool} {J : zJt} {m pa pb pc vf vs : Nat → Int32} {B : zBt} {w : Nat → Int64} {p : Nat × Nat} {Q : zR → zH → Prop} {x1 x2 x3 x4 x5 rv : Int32} (H : ((rv ≤ (0 : Int32) → (∃ j1, (((1068 : Int32) * x1) + (3 : Int32)) = Int32.ofNat j1 ∧ (j1 < 5340 ∧ (((zin ((x2).toInt64) (0 : Int64) (((m j1)).toInt64)) = false → Q (.inl (some (.int (0 : Int32)))) (zh K ((3 : Int32), rf, rs, bad, pr, pn, J) (m, pa, pb, pc, vf, vs, B) w)) ∧ ((zin ((x2).toInt64) (0 : Int64) (((m j1)).toInt64)) = true → ∀ k_x2, k_x2 < 2147483648 → x2 = Int32.ofNat k_x2 → (∃ j3, x1 = Int32.ofNat j3 ∧ (1068 * j3 + 2 < 5340 ∧ (((zhasE m j3 x3 x4) = false → Q (.inl (some (.int (0 : Int32)))) (zh K ((3 : Int32), rf, rs, bad, pr, pn, J) (m, pa, pb, pc, vf, vs, B) w)) ∧ ((zhasE m j3 x3 x4) = true → ∀ k_x3, k_x3 < 2147483648 → x3 = Int32.ofNat k_x3 → ∀ k_x4, k_x4 < 2147483648 → x4 = Int32.ofNat k_x4 → (((zin ((x5).toInt64) (0 : Int64) (1 : Int64)) = true → ∀ k_x5, 0 ≤ k_x5 ∧ k_x5 ≤ 1 → x5 = Int32.ofNat k_x5 → zT zm_173 [.ref 75, .int x1] p (zh K (code, rf, rs, bad, pr, pn, J) (m, pa, pb, pc, vf, vs, B) w) (zK zm_206 74 [some (.ref 75), none, some (.int (Int32.ofNat k_x2)), some (.int (Int32.ofNat k_x3)), some (.int (Int32.ofNat k_x4)), some (.int (Int32.ofNat k_x5)), none] [] p Q)) ∧ ((zin ((x5).toInt64) (0 : Int64) (1 : Int64)) = false → Q (.inl (some (.int (0 : Int32)))) (zh K ((3 : Int32), rf, rs, bad, pr, pn, J) (m, pa, pb, pc, vf, vs, B) w)))))))))))) ∧ (¬ rv ≤ (0 : Int32) → Q (.inl (some (.int (0 : Int32)))) (zh K (rv, rf, rs, bad, pr, pn, J) (m, pa, pb, pc, vf, vs, B) w)))) : zW zm_206 5 [some (.ref 75), some (.int x1), some (.int x2), some (.int x3), some (.int x4), some (.int x5), none] [.int rv] p (zh K (code, rf, rs, bad, pr, pn, J) (m, pa, pb, pc, vf, vs, B) w) Q := by
  refine zW_bh (zcmp .le rv (0 : Int32)) 19 12 [some (.ref 75), some (.int x1), some (.int x2), some (.int x3), some (.int x4), some (.int x5), some (.int rv)] [] 3 (fun f => rfl) (fun c => ?_) (fun c => ?_)
  · have c9 : rv ≤ (0 : Int32) := (of_decide_eq_true c)
    replace H := H.1 c9
    refine zW_gh 32 [some (.ref 75), some (.int x1), some (.int x2), some (.int x3), some (.int x4), some (.int x5), some (.int rv)] [.int (3 : Int32), .int ((1068 : Int32) * x1), .ref 76, .long (0 : Int64), .long ((x2).toInt64)] 9 (fun f => rfl) ?_
    refine zW_gh 33 [some (.ref 75), some (.int x1), some (.int x2), some (.int x3), some (.int x4), some (.int x5), some (.int rv)] [.int (((1068 : Int32) * x1) + (3 : Int32)), .ref 76, .long (0 : Int64), .long ((x2).toInt64)] 1 (fun f => rfl) ?_
    obtain ⟨j1, e_j1, H⟩ := H
    obtain ⟨h2, H⟩ := H
    refine zW_iald rfl (by decide) rfl (by decide) e_j1 h2 ?_
    refine zW_gh 35 [some (.ref 75), some (.int x1), some (.int x2), some (.int x3), some (.int x4), some (.int x5), some (.int rv)] [.long (((m j1)).toInt64), .long (0 : Int64), .long ((x2).toInt64)] 1 (fun f => rfl) ?_
    refine zW_cl rfl rfl rfl rfl rfl (s141 ?_)
    change zW zm_206 38 [some (.ref 75), some (.int x1), some (.int x2), some (.int x3), some (.int x4), some (.int x5), some (.int rv)] [.int (zbi (zin ((x2).toInt64) (0 : Int64) (((m j1)).toInt64)))] p _ Q
    refine zW_bh (zcmp .eq (zbi (zin ((x2).toInt64) (0 : Int64) (((m j1)).toInt64))) (0 : Int32)) 63 41 [some (.ref 75), some (.int x1), some (.int x2), some (.int x3), some (.int x4), some (.int x5), some (.int rv)] [] 1 (fun f => rfl) (fun c => ?_) (fun c => ?_)
    · have c9 : (zin ((x2).toInt64) (0 : Int64) (((m j1)).toInt64)) = false := ((Bool.not_eq_true' _).mp ((zcB_eq _).symm.trans c))
      replace H := H.1 c9
      refine zW_gh 65 [some (.ref 75), some (.int x1), some (.int x2), some (.int x3), some (.int x4), some (.int x5), some (.int rv)] [.int (3 : Int32), .ref 75] 2 (fun f => rfl) ?_
      refine zW_cl rfl rfl rfl rfl rfl (s142 ?_)
      change zW zm_206 68 [some (.ref 75), some (.int x1), some (.int x2), some (.int x3), some (.int x4), some (.int x5), some (.int rv)] [.int (0 : Int32)] p _ Q
      exact zW_rh (some (.int (0 : Int32))) 1 (fun f => rfl) H
    · have c9 : (zin ((x2).toInt64) (0 : Int64) (((m j1)).toInt64)) = true := ((Bool.not_eq_false' _).mp ((zcB_eq _).symm.trans c))
      replace H := H.2 c9
      obtain ⟨k_x2, h_k_x2, e_k_x2⟩ := zin_b (by decide) c9
      replace H := H k_x2 h_k_x2 e_k_x2
      subst e_k_x2
      obtain ⟨j3, e_j3, H⟩ := H
      refine zW_gh 46 [some (.ref 75), some (.int x1), some (.int (Int32.ofNat k_x2)), some (.int x3), some (.int x4), some (.int x5), some (.int rv)] [.int x4, .int x3, .int x1, .ref 75] 4 (fun f => rfl) ?_
      obtain ⟨h4, H⟩ := H
      refine zW_cl rfl rfl rfl rfl rfl ((s148 e_j3) h4 ?_)
      change zW zm_206 49 [some (.ref 75), some (.int x1), some (.int (Int32.ofNat k_x2)), some (.int x3), some (.int x4), some (.int x5), some (.int rv)] [.int (zbi (zhasE m j3 x3 x4))] p _ Q
      refine zW_bh (zcmp .eq (zbi (zhasE m j3 x3 x4)) (0 : Int32)) 63 52 [some (.ref 75), some (.int x1), some (.int (Int32.ofNat k_x2)), some (.int x3), some (.int x4), some (.int x5), some (.int rv)] [] 1 (fun f => rfl) (fun c => ?_) (fun c => ?_)
      · have c9 : (zhasE m j3 x3 x4) = false := ((Bool.not_eq_true' _).mp ((zcB_eq _).symm.trans c))
        replace H := H.1 c9
        refine zW_gh 65 [some (.ref 75), some (.int x1), some (.int (Int32.ofNat k_x2)), some (.int x3), some (.int x4), some (.int x5), some (.int rv)] [.int (3 : Int32), .ref 75] 2 (fun f => rfl) ?_
        refine zW_cl rfl rfl rfl rfl rfl (s142 ?_)
        change zW zm_206 68 [some (.ref 75), some (.int x1), some (.int (Int32.ofNat k_x2)), some (.int x3), some (.int x4), some (.int x5), some (.int rv)] [.int (0 : Int32)] p _ Q
        exact zW_rh (some (.int (0 : Int32))) 1 (fun f => rfl) H
      · have c9 : (zhasE m j3 x3 x4) = true := ((Bool.not_eq_false' _).mp ((zcB_eq _).symm.trans c))
        replace H := H.2 c9
        obtain ⟨k_x3, h_k_x3, e_k_x3⟩ := zhasE_r c9
        replace H := H k_x3 h_k_x3 e_k_x3
        subst e_k_x3
        obtain ⟨k_x4, h_k_x4, e_k_x4⟩ := zhasE_c c9
        replace H := H k_x4 h_k_x4 e_k_x4
        subst e_k_x4
        refine zW_gh 57 [some (.ref 75), some (.int x1), some (.int (Int32.ofNat k_x2)), some (.int (Int32.ofNat k_x3)), some (.int (Int32.ofNat k_x4)), some (.int x5), some (.int rv)] [.long (1 : Int64), .long (0 : Int64), .long ((x5).toInt64)] 4 (fun f => rfl) ?_
        refine zW_cl rfl rfl rfl rfl rfl (s141 ?_)
        change zW zm_206 60 [some (.ref 75), some (.int x1), some (.int (Int32.ofNat k_x2)), some (.int (Int32.ofNat k_x3)), some (.int (Int32.ofNat k_x4)), some (.int x5), some (.int rv)] [.int (zbi (zin ((x5).toInt64) (0 : Int64) (1 : Int64)))] p _ Q
        refine zW_bh (zcmp .ne (zbi (zin ((x5).toInt64) (0 : Int64) (1 : Int64))) (0 : Int32)) 69 63 [some (.ref 75), some (.int x1), some (.int (Int32.ofNat k_x2)), some (.int (Int32.ofNat k_x3)), some (.int (Int32.ofNat k_x4)), some (.int x5), some (.int rv)] [] 1 (fun f => rfl) (fun c => ?_) (fun c => ?_)
        · have c9 : (zin ((x5).toInt64) (0 : Int64) (1 : Int64)) = true := ((zcB_ne _).symm.trans c)
          replace H := H.1 c9
          obtain ⟨k_x5, h_k_x5, e_k_x5⟩ := zin_k (l := 0) (h := 1) (by decide) (by decide) c9
          replace H := H k_x5 h_k_x5 e_k_x5
          subst e_k_x5
          refine zW_gh 71 [some (.ref 75), some (.int x1), some (.int (Int32.ofNat k_x2)), some (.int (Int32.ofNat k_x3)), some (.int (Int32.ofNat k_x4)), some (.int (Int32.ofNat k_x5)), some (.int rv)] [.int x1, .ref 75] 2 (fun f => rfl) ?_
          refine zW_fg (L' := [some (.ref 75), none, some (.int (Int32.ofNat k_x2)), some (.int (Int32.ofNat k_x3)), some (.int (Int32.ofNat k_x4)), some (.int (Int32.ofNat k_x5)), none]) (zle_s _ (zle_n _ (zle_s _ (zle_s _ (zle_s _ (zle_s _ (zle_n _ zle_nil))))))) ?_
          exact zW_cl rfl rfl rfl rfl rfl H
        · have c9 : (zin ((x5).toInt64) (0 : Int64) (1 : Int64)) = false := ((zcB_ne _).symm.trans c)
          replace H := H.2 c9
          refine zW_gh 65 [some (.ref 75), some (.int x1), some (.int (Int32.ofNat k_x2)), some (.int (Int32.ofNat k_x3)), some (.int (Int32.ofNat k_x4)), some (.int x5), some (.int rv)] [.int (3 : Int32), .ref 75] 2 (fun f => rfl) ?_
          refine zW_cl rfl rfl rfl rfl rfl (s142 ?_)
          change zW zm_206 68 [some (.ref 75), some (.int x1), some (.int (Int32.ofNat k_x2)), some (.int (Int32.ofNat k_x3)), some (.int (Int32.ofNat k_x4)), some (.int x5), some (.int rv)] [.int (0 : Int32)] p _ Q
          exact zW_rh (some (.int (0 : Int32))) 1 (fun f => rfl) H
  · have c9 : ¬ rv ≤ (0 : Int32) := (of_decide_eq_false c)
    replace H := H.2 c9
    refine zW_gh 15 [some (.ref 75), some (.int x1), some (.int x2), some (.int x3), some (.int x4), some (.int x5), some (.int rv)] [.int rv, .ref 75] 2 (fun f => rfl) ?_
    refine zW_cl rfl rfl rfl rfl rfl (s142 ?_)
    change zW zm_206 18 [some (.ref 75), some (.int x1), some (.int x2), some (.int x3), some (.int x4), some (.int x5), some (.int rv)] [.int (0 : Int32)] p _ Q
    exact zW_rh (some (.int (0 : Int32))) 1 (fun f => rfl) H
theorem b206_74 {K : zKt} {code rf rs pr pn : Int32} {bad : Bool} {J : zJt} {m pa pb pc vf vs : Nat → Int32} {B : zBt} {w : Nat → Int64} {p : Nat × Nat} {Q : zR → zH → Prop} {x2 x3 x4 x5 : Nat} (H : zT zm_181 [.ref 75, .int (3204 : Int32), .int (Int32.ofNat x2)] p (zh K (code, rf, rs, bad, pr, pn, J) (m, pa, pb, pc, vf, vs, B) w) (zK zm_206 82 [some (.ref 75), none, none, some (.int (Int32.ofNat x3)), some (.int (Int32.ofNat x4)), some (.int (Int32.ofNat x5)), none] [] p Q)) : zW zm_206 74 [some (.ref 75), none, some (.int (Int32.ofNat x2)), some (.int (Int32.ofNat x3)), some (.int (Int32.ofNat x4)), some (.int (Int32.ofNat x5)), none] [] p (zh K (code, rf, rs, bad, pr, pn, J) (m, pa, pb, pc, vf, vs, B) w) Q := by
  refine zW_gh 79 [some (.ref 75), none, some (.int (Int32.ofNat x2)), some (.int (Int32.ofNat x3)), some (.int (Int32.ofNat x4)), some (.int (Int32.ofNat x5)), none] [.int (Int32.ofNat x2), .int (3204 : Int32), .ref 75] 3 (fun f => rfl) ?_
  refine zW_fg (L' := [some (.ref 75), none, none, some (.int (Int32.ofNat x3)), some (.int (Int32.ofNat x4)), some (.int (Int32.ofNat x5)), none]) (zle_s _ (zle_s _ (zle_n _ (zle_s _ (zle_s _ (zle_s _ (zle_s _ zle_nil))))))) ?_
  exact zW_cl rfl rfl rfl rfl rfl H
theorem b206_82 {K : zKt} {code rf rs pr pn : Int32} {bad : Bool} {J : zJt} {m pa pb pc vf vs : Nat → Int32} {B : zBt} {w : Nat → Int64} {p : Nat × Nat} {Q : zR → zH → Prop} {x3 x4 x5 : Nat} (H : ((((3208 + (8 * x3)) + (2 * x4)) + x5) < 5340 ∧ Q (.inl (some (.int (m (((3208 + (8 * x3)) + (2 * x4)) + x5))))) (zh K (code, rf, rs, bad, pr, pn, J) (m, pa, pb, pc, vf, vs, B) w))) : zW zm_206 82 [some (.ref 75), none, none, some (.int (Int32.ofNat x3)), some (.int (Int32.ofNat x4)), some (.int (Int32.ofNat x5)), none] [] p (zh K (code, rf, rs, bad, pr, pn, J) (m, pa, pb, pc, vf, vs, B) w) Q := by
  refine zW_gh 92 [some (.ref 75), none, none, some (.int (Int32.ofNat x3)), some (.int (Int32.ofNat x4)), some (.int (Int32.ofNat x5)), none] [.int (Int32.ofNat x4), .int (Int32.ofNat x3), .int (3204 : Int32), .ref 76] 5 (fun f => rfl) ?_
  refine zW_cl rfl rfl rfl rfl rfl (s151 ?_)
  change zW zm_206 95 [some (.ref 75), none, none, some (.int (Int32.ofNat x3)), some (.int (Int32.ofNat x4)), some (.int (Int32.ofNat x5)), none] [.int (((3208 : Int32) + ((8 : Int32) * (Int32.ofNat x3))) + ((2 : Int32) * (Int32.ofNat x4))), .ref 76] p _ Q
  refine zW_gh 98 [some (.ref 75), none, none, some (.int (Int32.ofNat x3)), some (.int (Int32.ofNat x4)), some (.int (Int32.ofNat x5)), none] [.int ((((3208 : Int32) + ((8 : Int32) * (Int32.ofNat x3))) + ((2 : Int32) * (Int32.ofNat x4))) + (Int32.ofNat x5)), .ref 76] 2 (fun f => rfl) ?_
  obtain ⟨h1, H⟩ := H
  refine zW_iald rfl (by decide) rfl (by decide) (zN_a (zN_a (zN_a rfl (zN_m rfl rfl)) (zN_m rfl rfl)) rfl) h1 ?_
  exact zW_rh (some (.int (m (((3208 + (8 * x3)) + (2 * x4)) + x5)))) 1 (fun f => rfl) H
theorem b208 {K : zKt} {code rf rs pr pn : Int32} {bad : Bool} {J : zJt} {m pa pb pc vf vs : Nat → Int32} {B : zBt} {w : Nat → Int64} {p : Nat × Nat} {Q : zR → zH → Prop} {a0 : Nat} (H : zT zm_173 [.ref 75, .int (Int32.ofNat a0)] p (zh K (code, rf, rs, bad, pr, pn, J) (m, pa, pb, pc, vf, vs, B) w) (zK zm_208 5 [some (.ref 75), none] [] p Q)) : zT zm_208 [.ref 75, .int (Int32.ofNat a0)] p (zh K (code, rf, rs, bad, pr, pn, J) (m, pa, pb, pc, vf, vs, B) w) Q := by
  change zW zm_208 0 [some (.ref 75), some (.int (Int32.ofNat a0))] [] p _ Q
  refine zW_gh 2 [some (.ref 75), some (.int (Int32.ofNat a0))] [.int (Int32.ofNat a0), .ref 75] 2 (fun f => rfl) ?_
  refine zW_fg (L' := [some (.ref 75), none]) (zle_s _ (zle_n _ zle_nil)) ?_
  exact zW_cl rfl rfl rfl rfl rfl H
theorem b208_5 {K : zKt} {code rf rs pr pn : Int32} {bad : Bool} {J : zJt} {m pa pb pc vf vs : Nat → Int32} {B : zBt} {w : Nat → Int64} {p : Nat × Nat} {Q : zR → zH → Prop} (H : zT zm_146 [.ref 75, .int (3204 : Int32)] p (zh K (code, rf, rs, bad, pr, pn, J) (m, pa, pb, pc, vf, vs, B) w) (zK zm_208 12 [some (.ref 75), none] [] p Q)) : zW zm_208 5 [some (.ref 75), none] [] p (zh K (code, rf, rs, bad, pr, pn, J) (m, pa, pb, pc, vf, vs, B) w) Q := by
  refine zW_gh 9 [some (.ref 75), none] [.int (3204 : Int32), .ref 75] 2 (fun f => rfl) ?_
  exact zW_cl rfl rfl rfl rfl rfl H
theorem b208_12 {K : zKt} {code rf rs pr pn : Int32} {bad : Bool} {J : zJt} {m pa pb pc vf vs : Nat → Int32} {B : zBt} {w : Nat → Int64} {p : Nat × Nat} {Q : zR → zH → Prop} (H : zT zm_200 [.ref 75, .int (3204 : Int32)] p (zh K (code, rf, rs, bad, pr, pn, J) (m, pa, pb, pc, vf, vs, B) w) (zK zm_208 19 [none, none] [] p Q)) : zW zm_208 12 [some (.ref 75), none] [] p (zh K (code, rf, rs, bad, pr, pn, J) (m, pa, pb, pc, vf, vs, B) w) Q := by
  refine zW_gh 16 [some (.ref 75), none] [.int (3204 : Int32), .ref 75] 2 (fun f => rfl) ?_
  refine zW_fg (L' := [none, none]) (zle_n _ (zle_s _ zle_nil)) ?_
  exact zW_cl rfl rfl rfl rfl rfl H
theorem b208_19 {K : zKt} {code rf rs pr pn : Int32} {bad : Bool} {J : zJt} {m pa pb pc vf vs : Nat → Int32} {B : zBt} {w : Nat → Int64} {p : Nat × Nat} {Q : zR → zH → Prop} {rv : Int32} (H : Q (.inl (some (.int rv))) (zh K (code, rf, rs, bad, pr, pn, J) (m, pa, pb, pc, vf, vs, B) w)) : zW zm_208 19 [none, none] [.int rv] p (zh K (code, rf, rs, bad, pr, pn, J) (m, pa, pb, pc, vf, vs, B) w) Q := by
  exact zW_rh (some (.int rv)) 1 (fun f => rfl) H
set_option maxRecDepth 20000 in
theorem b209 {K : zKt} {code rf rs pr pn : Int32} {bad : Bool} {J : zJt} {m pa pb pc vf vs : Nat → Int32} {B : zBt} {w : Nat → Int64} {p : Nat × Nat} {Q : zR → zH → Prop} {a0 : Nat} (H : zW zm_209 11 [some (.ref 75), some (.int (Int32.ofNat a0)), some (.int (m 3204)), some (.int (Int32.ofNat 0)), none, none] [] p (zh K (code, rf, rs, bad, pr, pn, J) (m, pa, pb, pc, vf, vs, B) w) Q) : zT zm_209 [.ref 75, .int (Int32.ofNat a0)] p (zh K (code, rf, rs, bad, pr, pn, J) (m, pa, pb, pc, vf, vs, B) w) Q := by
  change zW zm_209 0 [some (.ref 75), some (.int (Int32.ofNat a0)), none, none, none, none] [] p _ Q
  refine zW_gh 7 [some (.ref 75), some (.int (Int32.ofNat a0)), none, none, none, none] [.int (3204 : Int32), .ref 76] 3 (fun f => rfl) ?_
  refine zW_iald rfl (by decide) rfl (by decide) rfl (by decide) ?_
  refine zW_gh 11 [some (.ref 75), some (.int (Int32.ofNat a0)), some (.int (m 3204)), some (.int (0 : Int32)), none, none] [] 3 (fun f => rfl) ?_
  exact H
set_option maxRecDepth 20000 in
theorem b209_11 {K : zKt} {code rf rs pr pn : Int32} {bad : Bool} {J : zJt} {m pa pb pc vf vs : Nat → Int32} {B : zBt} {w : Nat → Int64} {p : Nat × Nat} {Q : zR → zH → Prop} {x1 x3 : Nat} {x2 : Int32} (H : (x3 < 2147483648 ∧ ((4 ≤ x3 → zW zm_209 38 [some (.ref 75), some (.int (Int32.ofNat x1)), some (.int x2), some (.int (Int32.ofNat 0)), none, none] [] p (zh K (code, rf, rs, bad, pr, pn, J) (m, pa, pb, pc, vf, vs, B) w) Q) ∧ (x3 < 4 → (x3 < 4 ∧ zW zm_209 11 [some (.ref 75), some (.int (Int32.ofNat x1)), some (.int x2), some (.int (Int32.ofNat (x3 + 1))), none, none] [] p (zh K (code, rf, rs, bad, pr, pn, J) (m, pa, pb, pc, (va_up vf x3 (0 : Int32)), (va_up vs x3 (0 : Int32)), B) w) Q))))) : zW zm_209 11 [some (.ref 75), some (.int (Int32.ofNat x1)), some (.int x2), some (.int (Int32.ofNat x3)), none, none] [] p (zh K (code, rf, rs, bad, pr, pn, J) (m, pa, pb, pc, vf, vs, B) w) Q := by
  obtain ⟨h1, H⟩ := H
  refine zW_bh (zcmp .ge (Int32.ofNat x3) (4 : Int32)) 36 16 [some (.ref 75), some (.int (Int32.ofNat x1)), some (.int x2), some (.int (Int32.ofNat x3)), none, none] [] 3 (fun f => rfl) (fun c => ?_) (fun c => ?_)
  · have c9 : 4 ≤ x3 := (of_decide_eq_true ((zcN_ge (a := x3) (b := 4) rfl rfl h1 (by decide)).symm.trans c))
    replace H := H.1 c9
    refine zW_gh 38 [some (.ref 75), some (.int (Int32.ofNat x1)), some (.int x2), some (.int (0 : Int32)), none, none] [] 2 (fun f => rfl) ?_
    exact H
  · have c9 : x3 < 4 := (Nat.lt_of_not_le (of_decide_eq_false ((zcN_ge (a := x3) (b := 4) rfl rfl h1 (by decide)).symm.trans c)))
    replace H := H.2 c9
    refine zW_gh 22 [some (.ref 75), some (.int (Int32.ofNat x1)), some (.int x2), some (.int (Int32.ofNat x3)), none, none] [.int (0 : Int32), .int (Int32.ofNat x3), .ref 80] 4 (fun f => rfl) ?_
    obtain ⟨h2, H⟩ := H
    refine zW_iast rfl (by decide) rfl (by decide) zu_80 rfl h2 ?_
    refine zW_gh 29 [some (.ref 75), some (.int (Int32.ofNat x1)), some (.int x2), some (.int (Int32.ofNat x3)), none, none] [.int (0 : Int32), .int (Int32.ofNat x3), .ref 81] 4 (fun f => rfl) ?_
    refine zW_iast rfl (by decide) rfl (by decide) zu_81 rfl h2 ?_
    refine zW_inc [some (.ref 75), some (.int (Int32.ofNat x1)), some (.int x2), some (.int ((Int32.ofNat x3) + (1 : Int32))), none, none] rfl rfl rfl ?_
    rw [show ((Int32.ofNat x3) + (1 : Int32)) = Int32.ofNat (x3 + 1) from (zN_a rfl rfl)]
    refine zW_gh 11 [some (.ref 75), some (.int (Int32.ofNat x1)), some (.int x2), some (.int (Int32.ofNat (x3 + 1))), none, none] [] 1 (fun f => rfl) ?_
    exact H
set_option maxRecDepth 20000 in
theorem b209_38 {K : zKt} {code rf rs pr pn : Int32} {bad : Bool} {J : zJt} {m pa pb pc vf vs : Nat → Int32} {B : zBt} {w : Nat → Int64} {p : Nat × Nat} {Q : zR → zH → Prop} {x1 x3 : Nat} {x2 : Int32} (H : (((m 3205) ≤ (Int32.ofNat x3) → Q (.inl (some (.int (1 : Int32)))) (zh K (code, rf, rs, bad, pr, pn, J) (m, pa, pb, pc, vf, vs, B) w)) ∧ (¬ (m 3205) ≤ (Int32.ofNat x3) → (x3 < 2147483648 ∧ (x1 < 2147483648 ∧ ((x3 < x1 → ((x1 ≤ x3 → zW zm_209 38 [some (.ref 75), some (.int (Int32.ofNat x1)), some (.int x2), some (.int (Int32.ofNat (x3 + 1))), none, none] [] p (zh K (code, rf, rs, bad, pr, pn, J) (m, pa, pb, pc, vf, vs, B) w) Q) ∧ (x3 < x1 → (((4276 + (8 * x3)) + (2 * 0)) < 5340 ∧ ((((4276 + (8 * x3)) + (2 * 0)) + 1) < 5340 ∧ (((3208 + (8 * x3)) + (2 * x3)) < 5340 ∧ ((((3208 + (8 * x3)) + (2 * x3)) + 1) < 5340 ∧ zT zm_204 [.ref 75, .int x2, .int (m ((4276 + (8 * x3)) + (2 * 0))), .int (m (((4276 + (8 * x3)) + (2 * 0)) + 1)), .int (m ((3208 + (8 * x3)) + (2 * x3))), .int (m (((3208 + (8 * x3)) + (2 * x3)) + 1))] p (zh K (code, rf, rs, bad, pr, pn, J) (m, pa, pb, pc, vf, vs, B) w) (zK zm_209 141 [some (.ref 75), some (.int (Int32.ofNat x1)), some (.int x2), some (.int (Int32.ofNat x3)), some (.int (Int32.ofNat ((4276 + (8 * x3)) + (2 * 0)))), some (.int (Int32.ofNat ((3208 + (8 * x3)) + (2 * x3))))] [] p Q)))))))) ∧ (x1 ≤ x3 → (((4276 + (8 * x3)) + (2 * 0)) < 5340 ∧ ((((4276 + (8 * x3)) + (2 * 0)) + 1) < 5340 ∧ (((zzr (m ((4276 + (8 * x3)) + (2 * 0))) (m (((4276 + (8 * x3)) + (2 * 0)) + 1))) = true → ((x1 ≤ x3 → zW zm_209 38 [some (.ref 75), some (.int (Int32.ofNat x1)), some (.int x2), some (.int (Int32.ofNat (x3 + 1))), none, none] [] p (zh K (code, rf, rs, bad, pr, pn, J) (m, pa, pb, pc, vf, vs, B) w) Q) ∧ (x3 < x1 → (((3208 + (8 * x3)) + (2 * x3)) < 5340 ∧ ((((3208 + (8 * x3)) + (2 * x3)) + 1) < 5340 ∧ zT zm_204 [.ref 75, .int x2, .int (m ((4276 + (8 * x3)) + (2 * 0))), .int (m (((4276 + (8 * x3)) + (2 * 0)) + 1)), .int (m ((3208 + (8 * x3)) + (2 * x3))), .int (m (((3208 + (8 * x3)) + (2 * x3)) + 1))] p (zh K (code, rf, rs, bad, pr, pn, J) (m, pa, pb, pc, vf, vs, B) w) (zK zm_209 141 [some (.ref 75), some (.int (Int32.ofNat x1)), some (.int x2), some (.int (Int32.ofNat x3)), some (.int (Int32.ofNat ((4276 + (8 * x3)) + (2 * 0)))), some (.int (Int32.ofNat ((3208 + (8 * x3)) + (2 * x3))))] [] p Q)))))) ∧ ((zzr (m ((4276 + (8 * x3)) + (2 * 0))) (m (((4276 + (8 * x3)) + (2 * 0)) + 1))) = false → Q (.inl (some (.int (0 : Int32)))) (zh K (code, rf, rs, bad, pr, pn, J) (m, pa, pb, pc, vf, vs, B) w)))))))))))) : zW zm_209 38 [some (.ref 75), some (.int (Int32.ofNat x1)), some (.int x2), some (.int (Int32.ofNat x3)), none, none] [] p (zh K (code, rf, rs, bad, pr, pn, J) (m, pa, pb, pc, vf, vs, B) w) Q := by
  refine zW_gh 46 [some (.ref 75), some (.int (Int32.ofNat x1)), some (.int x2), some (.int (Int32.ofNat x3)), none, none] [.int (3205 : Int32), .ref 76, .int (Int32.ofNat x3)] 4 (fun f => rfl) ?_
  refine zW_iald rfl (by decide) rfl (by decide) rfl (by decide) ?_
  refine zW_bh (zcmp .ge (Int32.ofNat x3) (m 3205)) 220 50 [some (.ref 75), some (.int (Int32.ofNat x1)), some (.int x2), some (.int (Int32.ofNat x3)), none, none] [] 1 (fun f => rfl) (fun c => ?_) (fun c => ?_)
  · have c9 : (m 3205) ≤ (Int32.ofNat x3) := (of_decide_eq_true c)
    replace H := H.1 c9
    refine zW_gh 221 [some (.ref 75), some (.int (Int32.ofNat x1)), some (.int x2), some (.int (Int32.ofNat x3)), none, none] [.int (1 : Int32)] 1 (fun f => rfl) ?_
    exact zW_rh (some (.int (1 : Int32))) 1 (fun f => rfl) H
  · have c9 : ¬ (m 3205) ≤ (Int32.ofNat x3) := (of_decide_eq_false c)
    replace H := H.2 c9
    refine zW_gh 55 [some (.ref 75), some (.int (Int32.ofNat x1)), some (.int x2), some (.int (Int32.ofNat x3)), none, none] [.int (0 : Int32), .int (Int32.ofNat x3), .int (4272 : Int32)] 3 (fun f => rfl) ?_
    refine zW_cl rfl rfl rfl rfl rfl (s151 ?_)
    change zW zm_209 58 [some (.ref 75), some (.int (Int32.ofNat x1)), some (.int x2), some (.int (Int32.ofNat x3)), none, none] [.int (((4276 : Int32) + ((8 : Int32) * (Int32.ofNat x3))) + ((2 : Int32) * (0 : Int32)))] p _ Q
    refine zW_gh 60 [some (.ref 75), some (.int (Int32.ofNat x1)), some (.int x2), some (.int (Int32.ofNat x3)), some (.int (((4276 : Int32) + ((8 : Int32) * (Int32.ofNat x3))) + ((2 : Int32) * (0 : Int32)))), none] [] 1 (fun f => rfl) ?_
    rw [show (((4276 : Int32) + ((8 : Int32) * (Int32.ofNat x3))) + ((2 : Int32) * (0 : Int32))) = Int32.ofNat ((4276 + (8 * x3)) + (2 * 0)) from (zN_a (zN_a rfl (zN_m rfl rfl)) (zN_m rfl rfl))]
    obtain ⟨h1, H⟩ := H
    obtain ⟨h2, H⟩ := H
    refine zW_bh (zcmp .lt (Int32.ofNat x3) (Int32.ofNat x1)) 89 65 [some (.ref 75), some (.int (Int32.ofNat x1)), some (.int x2), some (.int (Int32.ofNat x3)), some (.int (Int32.ofNat ((4276 + (8 * x3)) + (2 * 0)))), none] [] 3 (fun f => rfl) (fun c => ?_) (fun c => ?_)
    · have c9 : x3 < x1 := (of_decide_eq_true ((zcN_lt (a := x3) (b := x1) rfl rfl h1 h2).symm.trans c))
      replace H := H.1 c9
      refine zW_bh (zcmp .ge (Int32.ofNat x3) (Int32.ofNat x1)) 214 94 [some (.ref 75), some (.int (Int32.ofNat x1)), some (.int x2), some (.int (Int32.ofNat x3)), some (.int (Int32.ofNat ((4276 + (8 * x3)) + (2 * 0)))), none] [] 3 (fun f => rfl) (fun c => ?_) (fun c => ?_)
      · have c9 : x1 ≤ x3 := (of_decide_eq_true ((zcN_ge (a := x3) (b := x1) rfl rfl h1 h2).symm.trans c))
        replace H := H.1 c9
        refine zW_inc [some (.ref 75), some (.int (Int32.ofNat x1)), some (.int x2), some (.int ((Int32.ofNat x3) + (1 : Int32))), some (.int (Int32.ofNat ((4276 + (8 * x3)) + (2 * 0)))), none] rfl rfl rfl ?_
        rw [show ((Int32.ofNat x3) + (1 : Int32)) = Int32.ofNat (x3 + 1) from (zN_a rfl rfl)]
        refine zW_gh 38 [some (.ref 75), some (.int (Int32.ofNat x1)), some (.int x2), some (.int (Int32.ofNat (x3 + 1))), some (.int (Int32.ofNat ((4276 + (8 * x3)) + (2 * 0)))), none] [] 1 (fun f => rfl) ?_
        refine zW_fg (L' := [some (.ref 75), some (.int (Int32.ofNat x1)), some (.int x2), some (.int (Int32.ofNat (x3 + 1))), none, none]) (zle_s _ (zle_s _ (zle_s _ (zle_s _ (zle_n _ (zle_s _ zle_nil)))))) ?_
        exact H
      · have c9 : x3 < x1 := (Nat.lt_of_not_le (of_decide_eq_false ((zcN_ge (a := x3) (b := x1) rfl rfl h1 h2).symm.trans c)))
        replace H := H.2 c9
        refine zW_gh 99 [some (.ref 75), some (.int (Int32.ofNat x1)), some (.int x2), some (.int (Int32.ofNat x3)), some (.int (Int32.ofNat ((4276 + (8 * x3)) + (2 * 0)))), none] [.int (Int32.ofNat x3), .int (Int32.ofNat x3), .int (3204 : Int32)] 3 (fun f => rfl) ?_
        refine zW_cl rfl rfl rfl rfl rfl (s151 ?_)
        change zW zm_209 102 [some (.ref 75), some (.int (Int32.ofNat x1)), some (.int x2), some (.int (Int32.ofNat x3)), some (.int (Int32.ofNat ((4276 + (8 * x3)) + (2 * 0)))), none] [.int (((3208 : Int32) + ((8 : Int32) * (Int32.ofNat x3))) + ((2 : Int32) * (Int32.ofNat x3)))] p _ Q
        refine zW_gh 104 [some (.ref 75), some (.int (Int32.ofNat x1)), some (.int x2), some (.int (Int32.ofNat x3)), some (.int (Int32.ofNat ((4276 + (8 * x3)) + (2 * 0)))), some (.int (((3208 : Int32) + ((8 : Int32) * (Int32.ofNat x3))) + ((2 : Int32) * (Int32.ofNat x3))))] [] 1 (fun f => rfl) ?_
        rw [show (((3208 : Int32) + ((8 : Int32) * (Int32.ofNat x3))) + ((2 : Int32) * (Int32.ofNat x3))) = Int32.ofNat ((3208 + (8 * x3)) + (2 * x3)) from (zN_a (zN_a rfl (zN_m rfl rfl)) (zN_m rfl rfl))]
        refine zW_gh 112 [some (.ref 75), some (.int (Int32.ofNat x1)), some (.int x2), some (.int (Int32.ofNat x3)), some (.int (Int32.ofNat ((4276 + (8 * x3)) + (2 * 0)))), some (.int (Int32.ofNat ((3208 + (8 * x3)) + (2 * x3))))] [.int (Int32.ofNat ((4276 + (8 * x3)) + (2 * 0))), .ref 76, .int x2, .ref 75] 5 (fun f => rfl) ?_
        obtain ⟨h3, H⟩ := H
        refine zW_iald rfl (by decide) rfl (by decide) rfl h3 ?_
        refine zW_gh 121 [some (.ref 75), some (.int (Int32.ofNat x1)), some (.int x2), some (.int (Int32.ofNat x3)), some (.int (Int32.ofNat ((4276 + (8 * x3)) + (2 * 0)))), some (.int (Int32.ofNat ((3208 + (8 * x3)) + (2 * x3))))] [.int ((Int32.ofNat ((4276 + (8 * x3)) + (2 * 0))) + (1 : Int32)), .ref 76, .int (m ((4276 + (8 * x3)) + (2 * 0))), .int x2, .ref 75] 5 (fun f => rfl) ?_
        obtain ⟨h4, H⟩ := H
        refine zW_iald rfl (by decide) rfl (by decide) (zN_a rfl rfl) h4 ?_
        refine zW_gh 128 [some (.ref 75), some (.int (Int32.ofNat x1)), some (.int x2), some (.int (Int32.ofNat x3)), some (.int (Int32.ofNat ((4276 + (8 * x3)) + (2 * 0)))), some (.int (Int32.ofNat ((3208 + (8 * x3)) + (2 * x3))))] [.int (Int32.ofNat ((3208 + (8 * x3)) + (2 * x3))), .ref 76, .int (m (((4276 + (8 * x3)) + (2 * 0)) + 1)), .int (m ((4276 + (8 * x3)) + (2 * 0))), .int x2, .ref 75] 3 (fun f => rfl) ?_
        obtain ⟨h5, H⟩ := H
        refine zW_iald rfl (by decide) rfl (by decide) rfl h5 ?_
        refine zW_gh 137 [some (.ref 75), some (.int (Int32.ofNat x1)), some (.int x2), some (.int (Int32.ofNat x3)), some (.int (Int32.ofNat ((4276 + (8 * x3)) + (2 * 0)))), some (.int (Int32.ofNat ((3208 + (8 * x3)) + (2 * x3))))] [.int ((Int32.ofNat ((3208 + (8 * x3)) + (2 * x3))) + (1 : Int32)), .ref 76, .int (m ((3208 + (8 * x3)) + (2 * x3))), .int (m (((4276 + (8 * x3)) + (2 * 0)) + 1)), .int (m ((4276 + (8 * x3)) + (2 * 0))), .int x2, .ref 75] 5 (fun f => rfl) ?_
        obtain ⟨h6, H⟩ := H
        refine zW_iald rfl (by decide) rfl (by decide) (zN_a rfl rfl) h6 ?_
        exact zW_cl rfl rfl rfl rfl rfl H
    · have c9 : x1 ≤ x3 := (Nat.le_of_not_lt (of_decide_eq_false ((zcN_lt (a := x3) (b := x1) rfl rfl h1 h2).symm.trans c)))
      replace H := H.2 c9
      refine zW_gh 71 [some (.ref 75), some (.int (Int32.ofNat x1)), some (.int x2), some (.int (Int32.ofNat x3)), some (.int (Int32.ofNat ((4276 + (8 * x3)) + (2 * 0)))), none] [.int (Int32.ofNat ((4276 + (8 * x3)) + (2 * 0))), .ref 76] 3 (fun f => rfl) ?_
      obtain ⟨h7, H⟩ := H
      refine zW_iald rfl (by decide) rfl (by decide) rfl h7 ?_
      refine zW_gh 80 [some (.ref 75), some (.int (Int32.ofNat x1)), some (.int x2), some (.int (Int32.ofNat x3)), some (.int (Int32.ofNat ((4276 + (8 * x3)) + (2 * 0)))), none] [.int ((Int32.ofNat ((4276 + (8 * x3)) + (2 * 0))) + (1 : Int32)), .ref 76, .int (m ((4276 + (8 * x3)) + (2 * 0)))] 5 (fun f => rfl) ?_
      obtain ⟨h8, H⟩ := H
      refine zW_iald rfl (by decide) rfl (by decide) (zN_a rfl rfl) h8 ?_
      refine zW_cl rfl rfl rfl rfl rfl (s186 ?_)
      change zW zm_209 84 [some (.ref 75), some (.int (Int32.ofNat x1)), some (.int x2), some (.int (Int32.ofNat x3)), some (.int (Int32.ofNat ((4276 + (8 * x3)) + (2 * 0)))), none] [.int (zbi (zzr (m ((4276 + (8 * x3)) + (2 * 0))) (m (((4276 + (8 * x3)) + (2 * 0)) + 1))))] p _ Q
      refine zW_bh (zcmp .ne (zbi (zzr (m ((4276 + (8 * x3)) + (2 * 0))) (m (((4276 + (8 * x3)) + (2 * 0)) + 1)))) (0 : Int32)) 89 87 [some (.ref 75), some (.int (Int32.ofNat x1)), some (.int x2), some (.int (Int32.ofNat x3)), some (.int (Int32.ofNat ((4276 + (8 * x3)) + (2 * 0)))), none] [] 1 (fun f => rfl) (fun c => ?_) (fun c => ?_)
      · have c9 : (zzr (m ((4276 + (8 * x3)) + (2 * 0))) (m (((4276 + (8 * x3)) + (2 * 0)) + 1))) = true := ((zcB_ne _).symm.trans c)
        replace H := H.1 c9
        refine zW_bh (zcmp .ge (Int32.ofNat x3) (Int32.ofNat x1)) 214 94 [some (.ref 75), some (.int (Int32.ofNat x1)), some (.int x2), some (.int (Int32.ofNat x3)), some (.int (Int32.ofNat ((4276 + (8 * x3)) + (2 * 0)))), none] [] 3 (fun f => rfl) (fun c => ?_) (fun c => ?_)
        · have c9 : x1 ≤ x3 := (of_decide_eq_true ((zcN_ge (a := x3) (b := x1) rfl rfl h1 h2).symm.trans c))
          replace H := H.1 c9
          refine zW_inc [some (.ref 75), some (.int (Int32.ofNat x1)), some (.int x2), some (.int ((Int32.ofNat x3) + (1 : Int32))), some (.int (Int32.ofNat ((4276 + (8 * x3)) + (2 * 0)))), none] rfl rfl rfl ?_
          rw [show ((Int32.ofNat x3) + (1 : Int32)) = Int32.ofNat (x3 + 1) from (zN_a rfl rfl)]
          refine zW_gh 38 [some (.ref 75), some (.int (Int32.ofNat x1)), some (.int x2), some (.int (Int32.ofNat (x3 + 1))), some (.int (Int32.ofNat ((4276 + (8 * x3)) + (2 * 0)))), none] [] 1 (fun f => rfl) ?_
          refine zW_fg (L' := [some (.ref 75), some (.int (Int32.ofNat x1)), some (.int x2), some (.int (Int32.ofNat (x3 + 1))), none, none]) (zle_s _ (zle_s _ (zle_s _ (zle_s _ (zle_n _ (zle_s _ zle_nil)))))) ?_
          exact H
        · have c9 : x3 < x1 := (Nat.lt_of_not_le (of_decide_eq_false ((zcN_ge (a := x3) (b := x1) rfl rfl h1 h2).symm.trans c)))
          replace H := H.2 c9
          refine zW_gh 99 [some (.ref 75), some (.int (Int32.ofNat x1)), some (.int x2), some (.int (Int32.ofNat x3)), some (.int (Int32.ofNat ((4276 + (8 * x3)) + (2 * 0)))), none] [.int (Int32.ofNat x3), .int (Int32.ofNat x3), .int (3204 : Int32)] 3 (fun f => rfl) ?_
          refine zW_cl rfl rfl rfl rfl rfl (s151 ?_)
          change zW zm_209 102 [some (.ref 75), some (.int (Int32.ofNat x1)), some (.int x2), some (.int (Int32.ofNat x3)), some (.int (Int32.ofNat ((4276 + (8 * x3)) + (2 * 0)))), none] [.int (((3208 : Int32) + ((8 : Int32) * (Int32.ofNat x3))) + ((2 : Int32) * (Int32.ofNat x3)))] p _ Q
          refine zW_gh 104 [some (.ref 75), some (.int (Int32.ofNat x1)), some (.int x2), some (.int (Int32.ofNat x3)), some (.int (Int32.ofNat ((4276 + (8 * x3)) + (2 * 0)))), some (.int (((3208 : Int32) + ((8 : Int32) * (Int32.ofNat x3))) + ((2 : Int32) * (Int32.ofNat x3))))] [] 1 (fun f => rfl) ?_
          rw [show (((3208 : Int32) + ((8 : Int32) * (Int32.ofNat x3))) + ((2 : Int32) * (Int32.ofNat x3))) = Int32.ofNat ((3208 + (8 * x3)) + (2 * x3)) from (zN_a (zN_a rfl (zN_m rfl rfl)) (zN_m rfl rfl))]
          refine zW_gh 112 [some (.ref 75), some (.int (Int32.ofNat x1)), some (.int x2), some (.int (Int32.ofNat x3)), some (.int (Int32.ofNat ((4276 + (8 * x3)) + (2 * 0)))), some (.int (Int32.ofNat ((3208 + (8 * x3)) + (2 * x3))))] [.int (Int32.ofNat ((4276 + (8 * x3)) + (2 * 0))), .ref 76, .int x2, .ref 75] 5 (fun f => rfl) ?_
          refine zW_iald rfl (by decide) rfl (by decide) rfl h7 ?_
          refine zW_gh 121 [some (.ref 75), some (.int (Int32.ofNat x1)), some (.int x2), some (.int (Int32.ofNat x3)), some (.int (Int32.ofNat ((4276 + (8 * x3)) + (2 * 0)))), some (.int (Int32.ofNat ((3208 + (8 * x3)) + (2 * x3))))] [.int ((Int32.ofNat ((4276 + (8 * x3)) + (2 * 0))) + (1 : Int32)), .ref 76, .int (m ((4276 + (8 * x3)) + (2 * 0))), .int x2, .ref 75] 5 (fun f => rfl) ?_
          refine zW_iald rfl (by decide) rfl (by decide) (zN_a rfl rfl) h8 ?_
          refine zW_gh 128 [some (.ref 75), some (.int (Int32.ofNat x1)), some (.int x2), some (.int (Int32.ofNat x3)), some (.int (Int32.ofNat ((4276 + (8 * x3)) + (2 * 0)))), some (.int (Int32.ofNat ((3208 + (8 * x3)) + (2 * x3))))] [.int (Int32.ofNat ((3208 + (8 * x3)) + (2 * x3))), .ref 76, .int (m (((4276 + (8 * x3)) + (2 * 0)) + 1)), .int (m ((4276 + (8 * x3)) + (2 * 0))), .int x2, .ref 75] 3 (fun f => rfl) ?_
          obtain ⟨h11, H⟩ := H
          refine zW_iald rfl (by decide) rfl (by decide) rfl h11 ?_
          refine zW_gh 137 [some (.ref 75), some (.int (Int32.ofNat x1)), some (.int x2), some (.int (Int32.ofNat x3)), some (.int (Int32.ofNat ((4276 + (8 * x3)) + (2 * 0)))), some (.int (Int32.ofNat ((3208 + (8 * x3)) + (2 * x3))))] [.int ((Int32.ofNat ((3208 + (8 * x3)) + (2 * x3))) + (1 : Int32)), .ref 76, .int (m ((3208 + (8 * x3)) + (2 * x3))), .int (m (((4276 + (8 * x3)) + (2 * 0)) + 1)), .int (m ((4276 + (8 * x3)) + (2 * 0))), .int x2, .ref 75] 5 (fun f => rfl) ?_
          obtain ⟨h12, H⟩ := H
          refine zW_iald rfl (by decide) rfl (by decide) (zN_a rfl rfl) h12 ?_
          exact zW_cl rfl rfl rfl rfl rfl H
      · have c9 : (zzr (m ((4276 + (8 * x3)) + (2 * 0))) (m (((4276 + (8 * x3)) + (2 * 0)) + 1))) = false := ((zcB_ne _).symm.trans c)
        replace H := H.2 c9
        refine zW_gh 88 [some (.ref 75), some (.int (Int32.ofNat x1)), some (.int x2), some (.int (Int32.ofNat x3)), some (.int (Int32.ofNat ((4276 + (8 * x3)) + (2 * 0)))), none] [.int (0 : Int32)] 1 (fun f => rfl) ?_
        exact zW_rh (some (.int (0 : Int32))) 1 (fun f => rfl) H
set_option maxRecDepth 20000 in
theorem b209_141 {K : zKt} {code rf rs pr pn : Int32} {bad : Bool} {J : zJt} {m pa pb pc vf vs : Nat → Int32} {B : zBt} {w : Nat → Int64} {p : Nat × Nat} {Q : zR → zH → Prop} {x1 x3 x4 x5 : Nat} {x2 : Int32} (H : (((zzr rf rs) = true → (x4 < 5340 ∧ ((x4 + 1) < 5340 ∧ (x5 < 5340 ∧ ((x5 + 1) < 5340 ∧ zT zm_191 [.ref 75, .int x2, .int (m x4), .int (m (x4 + 1)), .int (m x5), .int (m (x5 + 1))] p (zh K (code, rf, rs, bad, pr, pn, J) (m, pa, pb, pc, vf, vs, B) w) (zK zm_209 194 [some (.ref 75), some (.int (Int32.ofNat x1)), some (.int x2), some (.int (Int32.ofNat x3)), none, none] [] p Q)))))) ∧ ((zzr rf rs) = false → Q (.inl (some (.int (0 : Int32)))) (zh K (code, rf, rs, bad, pr, pn, J) (m, pa, pb, pc, vf, vs, B) w)))) : zW zm_209 141 [some (.ref 75), some (.int (Int32.ofNat x1)), some (.int x2), some (.int (Int32.ofNat x3)), some (.int (Int32.ofNat x4)), some (.int (Int32.ofNat x5))] [] p (zh K (code, rf, rs, bad, pr, pn, J) (m, pa, pb, pc, vf, vs, B) w) Q := by
  refine zW_gh 149 [some (.ref 75), some (.int (Int32.ofNat x1)), some (.int x2), some (.int (Int32.ofNat x3)), some (.int (Int32.ofNat x4)), some (.int (Int32.ofNat x5))] [.int rs, .int rf] 4 (fun f => rfl) ?_
  refine zW_cl rfl rfl rfl rfl rfl (s186 ?_)
  change zW zm_209 152 [some (.ref 75), some (.int (Int32.ofNat x1)), some (.int x2), some (.int (Int32.ofNat x3)), some (.int (Int32.ofNat x4)), some (.int (Int32.ofNat x5))] [.int (zbi (zzr rf rs))] p _ Q
  refine zW_bh (zcmp .ne (zbi (zzr rf rs)) (0 : Int32)) 157 155 [some (.ref 75), some (.int (Int32.ofNat x1)), some (.int x2), some (.int (Int32.ofNat x3)), some (.int (Int32.ofNat x4)), some (.int (Int32.ofNat x5))] [] 1 (fun f => rfl) (fun c => ?_) (fun c => ?_)
  · have c9 : (zzr rf rs) = true := ((zcB_ne _).symm.trans c)
    replace H := H.1 c9
    refine zW_gh 165 [some (.ref 75), some (.int (Int32.ofNat x1)), some (.int x2), some (.int (Int32.ofNat x3)), some (.int (Int32.ofNat x4)), some (.int (Int32.ofNat x5))] [.int (Int32.ofNat x4), .ref 76, .int x2, .ref 75] 5 (fun f => rfl) ?_
    obtain ⟨h1, H⟩ := H
    refine zW_iald rfl (by decide) rfl (by decide) rfl h1 ?_
    refine zW_gh 174 [some (.ref 75), some (.int (Int32.ofNat x1)), some (.int x2), some (.int (Int32.ofNat x3)), some (.int (Int32.ofNat x4)), some (.int (Int32.ofNat x5))] [.int ((Int32.ofNat x4) + (1 : Int32)), .ref 76, .int (m x4), .int x2, .ref 75] 5 (fun f => rfl) ?_
    obtain ⟨h2, H⟩ := H
    refine zW_iald rfl (by decide) rfl (by decide) (zN_a rfl rfl) h2 ?_
    refine zW_gh 181 [some (.ref 75), some (.int (Int32.ofNat x1)), some (.int x2), some (.int (Int32.ofNat x3)), some (.int (Int32.ofNat x4)), some (.int (Int32.ofNat x5))] [.int (Int32.ofNat x5), .ref 76, .int (m (x4 + 1)), .int (m x4), .int x2, .ref 75] 3 (fun f => rfl) ?_
    obtain ⟨h3, H⟩ := H
    refine zW_iald rfl (by decide) rfl (by decide) rfl h3 ?_
    refine zW_gh 190 [some (.ref 75), some (.int (Int32.ofNat x1)), some (.int x2), some (.int (Int32.ofNat x3)), some (.int (Int32.ofNat x4)), some (.int (Int32.ofNat x5))] [.int ((Int32.ofNat x5) + (1 : Int32)), .ref 76, .int (m x5), .int (m (x4 + 1)), .int (m x4), .int x2, .ref 75] 5 (fun f => rfl) ?_
    obtain ⟨h4, H⟩ := H
    refine zW_iald rfl (by decide) rfl (by decide) (zN_a rfl rfl) h4 ?_
    refine zW_fg (L' := [some (.ref 75), some (.int (Int32.ofNat x1)), some (.int x2), some (.int (Int32.ofNat x3)), none, none]) (zle_s _ (zle_s _ (zle_s _ (zle_s _ (zle_n _ (zle_n _ zle_nil)))))) ?_
    exact zW_cl rfl rfl rfl rfl rfl H
  · have c9 : (zzr rf rs) = false := ((zcB_ne _).symm.trans c)
    replace H := H.2 c9
    refine zW_gh 156 [some (.ref 75), some (.int (Int32.ofNat x1)), some (.int x2), some (.int (Int32.ofNat x3)), some (.int (Int32.ofNat x4)), some (.int (Int32.ofNat x5))] [.int (0 : Int32)] 1 (fun f => rfl) ?_
    exact zW_rh (some (.int (0 : Int32))) 1 (fun f => rfl) H
set_option maxRecDepth 20000 in
theorem b209_194 {K : zKt} {code rf rs pr pn : Int32} {bad : Bool} {J : zJt} {m pa pb pc vf vs : Nat → Int32} {B : zBt} {w : Nat → Int64} {p : Nat × Nat} {Q : zR → zH → Prop} {x1 x3 : Nat} {x2 : Int32} (H : (x3 < 4 ∧ zW zm_209 38 [some (.ref 75), some (.int (Int32.ofNat x1)), some (.int x2), some (.int (Int32.ofNat (x3 + 1))), none, none] [] p (zh K (code, rf, rs, bad, pr, pn, J) (m, pa, pb, pc, (va_up vf x3 rf), (va_up vs x3 rs), B) w) Q)) : zW zm_209 194 [some (.ref 75), some (.int (Int32.ofNat x1)), some (.int x2), some (.int (Int32.ofNat x3)), none, none] [] p (zh K (code, rf, rs, bad, pr, pn, J) (m, pa, pb, pc, vf, vs, B) w) Q := by
  refine zW_gh 203 [some (.ref 75), some (.int (Int32.ofNat x1)), some (.int x2), some (.int (Int32.ofNat x3)), none, none] [.int rf, .int (Int32.ofNat x3), .ref 80] 5 (fun f => rfl) ?_
  obtain ⟨h1, H⟩ := H
  refine zW_iast rfl (by decide) rfl (by decide) zu_80 rfl h1 ?_
  refine zW_gh 213 [some (.ref 75), some (.int (Int32.ofNat x1)), some (.int x2), some (.int (Int32.ofNat x3)), none, none] [.int rs, .int (Int32.ofNat x3), .ref 81] 5 (fun f => rfl) ?_
  refine zW_iast rfl (by decide) rfl (by decide) zu_81 rfl h1 ?_
  refine zW_inc [some (.ref 75), some (.int (Int32.ofNat x1)), some (.int x2), some (.int ((Int32.ofNat x3) + (1 : Int32))), none, none] rfl rfl rfl ?_
  rw [show ((Int32.ofNat x3) + (1 : Int32)) = Int32.ofNat (x3 + 1) from (zN_a rfl rfl)]
  refine zW_gh 38 [some (.ref 75), some (.int (Int32.ofNat x1)), some (.int x2), some (.int (Int32.ofNat (x3 + 1))), none, none] [] 1 (fun f => rfl) ?_
  exact H
set_option maxRecDepth 20000 in
theorem b210 {K : zKt} {code rf rs pr pn : Int32} {bad : Bool} {J : zJt} {m pa pb pc vf vs : Nat → Int32} {B : zBt} {w : Nat → Int64} {p : Nat × Nat} {Q : zR → zH → Prop} (H : zW zm_210 20 [some (.ref 75), some (.int (m 3204)), some (.int ((m 3207) - (1 : Int32))), none, none, none, none, none] [] p (zh K (code, rf, rs, bad, pr, pn, J) (m, pa, pb, pc, vf, vs, B) w) Q) : zT zm_210 [.ref 75] p (zh K (code, rf, rs, bad, pr, pn, J) (m, pa, pb, pc, vf, vs, B) w) Q := by
  change zW zm_210 0 [some (.ref 75), none, none, none, none, none, none, none] [] p _ Q
  refine zW_gh 7 [some (.ref 75), none, none, none, none, none, none, none] [.int (3204 : Int32), .ref 76] 3 (fun f => rfl) ?_
  refine zW_iald rfl (by decide) rfl (by decide) rfl (by decide) ?_
  refine zW_gh 16 [some (.ref 75), some (.int (m 3204)), none, none, none, none, none, none] [.int (3207 : Int32), .ref 76] 4 (fun f => rfl) ?_
  refine zW_iald rfl (by decide) rfl (by decide) rfl (by decide) ?_
  refine zW_gh 20 [some (.ref 75), some (.int (m 3204)), some (.int ((m 3207) - (1 : Int32))), none, none, none, none, none] [] 3 (fun f => rfl) ?_
  exact H
set_option maxRecDepth 20000 in
theorem b210_20 {K : zKt} {code rf rs pr pn : Int32} {bad : Bool} {J : zJt} {m pa pb pc vf vs : Nat → Int32} {B : zBt} {w : Nat → Int64} {p : Nat × Nat} {Q : zR → zH → Prop} {x1 x2 : Int32} (H : ((x2 < (0 : Int32) → Q (.inl none) (zh K (code, rf, rs, bad, pr, pn, J) (m, pa, pb, pc, vf, vs, B) w)) ∧ (¬ x2 < (0 : Int32) → ∀ k_x2, k_x2 < 2147483648 → x2 = Int32.ofNat k_x2 → (((3272 + (5 * k_x2)) + 1) < 5340 ∧ (((3272 + (5 * k_x2)) + 2) < 5340 ∧ ((3272 + (5 * k_x2)) < 5340 ∧ ((¬ (m (3272 + (5 * k_x2))) = (3 : Int32) → ((¬ (m (3272 + (5 * k_x2))) = (4 : Int32) → ((¬ (m (3272 + (5 * k_x2))) = (5 : Int32) → zW zm_210 20 [some (.ref 75), some (.int x1), some (.int ((Int32.ofNat k_x2) + Int32.ofInt (-1))), none, none, none, none, none] [] p (zh K (code, rf, rs, bad, pr, pn, J) (m, pa, pb, pc, vf, vs, B) w) Q) ∧ ((m (3272 + (5 * k_x2))) = (5 : Int32) → (((3272 + (5 * k_x2)) + 3) < 5340 ∧ (((3272 + (5 * k_x2)) + 4) < 5340 ∧ (∃ j8, (m ((3272 + (5 * k_x2)) + 1)) = Int32.ofNat j8 ∧ (j8 < 4 ∧ zT zm_157 [.ref 75, .int x1, .int (0 : Int32), .int (0 : Int32), .int (m ((3272 + (5 * k_x2)) + 3)), .int (m ((3272 + (5 * k_x2)) + 4)), .int (vf j8), .int (vs j8)] p (zh K (code, rf, rs, bad, pr, pn, J) (m, pa, pb, pc, vf, vs, B) w) (zK zm_210 260 [some (.ref 75), some (.int x1), some (.int (Int32.ofNat k_x2)), none, some (.int (m ((3272 + (5 * k_x2)) + 1))), none, none, none] [] p Q)))))))) ∧ ((m (3272 + (5 * k_x2))) = (4 : Int32) → (∃ j11, (m ((3272 + (5 * k_x2)) + 2)) = Int32.ofNat j11 ∧ (j11 < 4 ∧ (((3272 + (5 * k_x2)) + 3) < 5340 ∧ (((3272 + (5 * k_x2)) + 4) < 5340 ∧ (∃ j16, (m ((3272 + (5 * k_x2)) + 1)) = Int32.ofNat j16 ∧ (j16 < 4 ∧ zT zm_157 [.ref 75, .int x1, .int (vf j11), .int (vs j11), .int (m ((3272 + (5 * k_x2)) + 3)), .int (m ((3272 + (5 * k_x2)) + 4)), .int (vf j16), .int (vs j16)] p (zh K (code, rf, rs, bad, pr, pn, J) (m, pa, pb, pc, vf, vs, B) w) (zK zm_210 188 [some (.ref 75), some (.int x1), some (.int (Int32.ofNat k_x2)), none, none, some (.int (m ((3272 + (5 * k_x2)) + 2))), none, none] [] p Q)))))))))) ∧ ((m (3272 + (5 * k_x2))) = (3 : Int32) → (∃ j19, (m ((3272 + (5 * k_x2)) + 1)) = Int32.ofNat j19 ∧ (j19 < 4 ∧ (∃ j22, (m ((3272 + (5 * k_x2)) + 2)) = Int32.ofNat j22 ∧ (j22 < 4 ∧ zW zm_210 20 [some (.ref 75), some (.int x1), some (.int ((Int32.ofNat k_x2) + Int32.ofInt (-1))), none, none, none, none, none] [] p (zh K (code, rf, rs, bad, pr, pn, J) (m, pa, pb, pc, (va_up (va_up vf j19 (vf j22)) j22 (vf j19)), (va_up (va_up vs j19 (vs j22)) j22 (vs j19)), B) w) Q)))))))))))) : zW zm_210 20 [some (.ref 75), some (.int x1), some (.int x2), none, none, none, none, none] [] p (zh K (code, rf, rs, bad, pr, pn, J) (m, pa, pb, pc, vf, vs, B) w) Q := by
  refine zW_bh (zcmp .lt x2 (0 : Int32)) 288 24 [some (.ref 75), some (.int x1), some (.int x2), none, none, none, none, none] [] 2 (fun f => rfl) (fun c => ?_) (fun c => ?_)
  · have c9 : x2 < (0 : Int32) := (of_decide_eq_true c)
    replace H := H.1 c9
    exact zW_rh none 1 (fun f => rfl) H
  · have c9 : ¬ x2 < (0 : Int32) := (of_decide_eq_false c)
    replace H := H.2 c9
    obtain ⟨k_x2, h_k_x2, e_k_x2⟩ := zNn c9
    replace H := H k_x2 h_k_x2 e_k_x2
    subst e_k_x2
    refine zW_gh 32 [some (.ref 75), some (.int x1), some (.int (Int32.ofNat k_x2)), some (.int ((3272 : Int32) + ((5 : Int32) * (Int32.ofNat k_x2)))), none, none, none, none] [] 6 (fun f => rfl) ?_
    rw [show ((3272 : Int32) + ((5 : Int32) * (Int32.ofNat k_x2))) = Int32.ofNat (3272 + (5 * k_x2)) from (zN_a rfl (zN_m rfl rfl))]
    refine zW_gh 39 [some (.ref 75), some (.int x1), some (.int (Int32.ofNat k_x2)), some (.int (Int32.ofNat (3272 + (5 * k_x2)))), none, none, none, none] [.int ((Int32.ofNat (3272 + (5 * k_x2))) + (1 : Int32)), .ref 76] 5 (fun f => rfl) ?_
    obtain ⟨h1, H⟩ := H
    refine zW_iald rfl (by decide) rfl (by decide) (zN_a rfl rfl) h1 ?_
    refine zW_gh 49 [some (.ref 75), some (.int x1), some (.int (Int32.ofNat k_x2)), some (.int (Int32.ofNat (3272 + (5 * k_x2)))), some (.int (m ((3272 + (5 * k_x2)) + 1))), none, none, none] [.int ((Int32.ofNat (3272 + (5 * k_x2))) + (2 : Int32)), .ref 76] 6 (fun f => rfl) ?_
    obtain ⟨h2, H⟩ := H
    refine zW_iald rfl (by decide) rfl (by decide) (zN_a rfl rfl) h2 ?_
    refine zW_gh 57 [some (.ref 75), some (.int x1), some (.int (Int32.ofNat k_x2)), some (.int (Int32.ofNat (3272 + (5 * k_x2)))), some (.int (m ((3272 + (5 * k_x2)) + 1))), some (.int (m ((3272 + (5 * k_x2)) + 2))), none, none] [.int (Int32.ofNat (3272 + (5 * k_x2))), .ref 76] 4 (fun f => rfl) ?_
    obtain ⟨h3, H⟩ := H
    refine zW_iald rfl (by decide) rfl (by decide) rfl h3 ?_
    refine zW_bh (zcmp .ne (m (3272 + (5 * k_x2))) (3 : Int32)) 129 62 [some (.ref 75), some (.int x1), some (.int (Int32.ofNat k_x2)), some (.int (Int32.ofNat (3272 + (5 * k_x2)))), some (.int (m ((3272 + (5 * k_x2)) + 1))), some (.int (m ((3272 + (5 * k_x2)) + 2))), none, none] [] 2 (fun f => rfl) (fun c => ?_) (fun c => ?_)
    · have c9 : ¬ (m (3272 + (5 * k_x2))) = (3 : Int32) := (by simpa [zcmp] using c)
      replace H := H.1 c9
      refine zW_gh 134 [some (.ref 75), some (.int x1), some (.int (Int32.ofNat k_x2)), some (.int (Int32.ofNat (3272 + (5 * k_x2)))), some (.int (m ((3272 + (5 * k_x2)) + 1))), some (.int (m ((3272 + (5 * k_x2)) + 2))), none, none] [.int (Int32.ofNat (3272 + (5 * k_x2))), .ref 76] 3 (fun f => rfl) ?_
      refine zW_iald rfl (by decide) rfl (by decide) rfl h3 ?_
      refine zW_bh (zcmp .ne (m (3272 + (5 * k_x2))) (4 : Int32)) 213 139 [some (.ref 75), some (.int x1), some (.int (Int32.ofNat k_x2)), some (.int (Int32.ofNat (3272 + (5 * k_x2)))), some (.int (m ((3272 + (5 * k_x2)) + 1))), some (.int (m ((3272 + (5 * k_x2)) + 2))), none, none] [] 2 (fun f => rfl) (fun c => ?_) (fun c => ?_)
      · have c9 : ¬ (m (3272 + (5 * k_x2))) = (4 : Int32) := (by simpa [zcmp] using c)
        replace H := H.1 c9
        refine zW_gh 218 [some (.ref 75), some (.int x1), some (.int (Int32.ofNat k_x2)), some (.int (Int32.ofNat (3272 + (5 * k_x2)))), some (.int (m ((3272 + (5 * k_x2)) + 1))), some (.int (m ((3272 + (5 * k_x2)) + 2))), none, none] [.int (Int32.ofNat (3272 + (5 * k_x2))), .ref 76] 3 (fun f => rfl) ?_
        refine zW_iald rfl (by decide) rfl (by decide) rfl h3 ?_
        refine zW_bh (zcmp .ne (m (3272 + (5 * k_x2))) (5 : Int32)) 282 223 [some (.ref 75), some (.int x1), some (.int (Int32.ofNat k_x2)), some (.int (Int32.ofNat (3272 + (5 * k_x2)))), some (.int (m ((3272 + (5 * k_x2)) + 1))), some (.int (m ((3272 + (5 * k_x2)) + 2))), none, none] [] 2 (fun f => rfl) (fun c => ?_) (fun c => ?_)
        · have c9 : ¬ (m (3272 + (5 * k_x2))) = (5 : Int32) := (by simpa [zcmp] using c)
          replace H := H.1 c9
          refine zW_inc [some (.ref 75), some (.int x1), some (.int ((Int32.ofNat k_x2) + Int32.ofInt (-1))), some (.int (Int32.ofNat (3272 + (5 * k_x2)))), some (.int (m ((3272 + (5 * k_x2)) + 1))), some (.int (m ((3272 + (5 * k_x2)) + 2))), none, none] rfl rfl rfl ?_
          refine zW_gh 20 [some (.ref 75), some (.int x1), some (.int ((Int32.ofNat k_x2) + Int32.ofInt (-1))), some (.int (Int32.ofNat (3272 + (5 * k_x2)))), some (.int (m ((3272 + (5 * k_x2)) + 1))), some (.int (m ((3272 + (5 * k_x2)) + 2))), none, none] [] 1 (fun f => rfl) ?_
          refine zW_fg (L' := [some (.ref 75), some (.int x1), some (.int ((Int32.ofNat k_x2) + Int32.ofInt (-1))), none, none, none, none, none]) (zle_s _ (zle_s _ (zle_s _ (zle_n _ (zle_n _ (zle_n _ (zle_s _ (zle_s _ zle_nil)))))))) ?_
          exact H
        · have c9 : (m (3272 + (5 * k_x2))) = (5 : Int32) := (by simpa [zcmp] using c)
          replace H := H.2 c9
          refine zW_gh 234 [some (.ref 75), some (.int x1), some (.int (Int32.ofNat k_x2)), some (.int (Int32.ofNat (3272 + (5 * k_x2)))), some (.int (m ((3272 + (5 * k_x2)) + 1))), some (.int (m ((3272 + (5 * k_x2)) + 2))), none, none] [.int ((Int32.ofNat (3272 + (5 * k_x2))) + (3 : Int32)), .ref 76, .int (0 : Int32), .int (0 : Int32), .int x1, .ref 75] 9 (fun f => rfl) ?_
          obtain ⟨h6, H⟩ := H
          refine zW_iald rfl (by decide) rfl (by decide) (zN_a rfl rfl) h6 ?_
          refine zW_gh 242 [some (.ref 75), some (.int x1), some (.int (Int32.ofNat k_x2)), some (.int (Int32.ofNat (3272 + (5 * k_x2)))), some (.int (m ((3272 + (5 * k_x2)) + 1))), some (.int (m ((3272 + (5 * k_x2)) + 2))), none, none] [.int ((Int32.ofNat (3272 + (5 * k_x2))) + (4 : Int32)), .ref 76, .int (m ((3272 + (5 * k_x2)) + 3)), .int (0 : Int32), .int (0 : Int32), .int x1, .ref 75] 5 (fun f => rfl) ?_
          obtain ⟨h7, H⟩ := H
          refine zW_iald rfl (by decide) rfl (by decide) (zN_a rfl rfl) h7 ?_
          refine zW_gh 249 [some (.ref 75), some (.int x1), some (.int (Int32.ofNat k_x2)), some (.int (Int32.ofNat (3272 + (5 * k_x2)))), some (.int (m ((3272 + (5 * k_x2)) + 1))), some (.int (m ((3272 + (5 * k_x2)) + 2))), none, none] [.int (m ((3272 + (5 * k_x2)) + 1)), .ref 80, .int (m ((3272 + (5 * k_x2)) + 4)), .int (m ((3272 + (5 * k_x2)) + 3)), .int (0 : Int32), .int (0 : Int32), .int x1, .ref 75] 3 (fun f => rfl) ?_
          obtain ⟨j8, e_j8, H⟩ := H
          obtain ⟨h9, H⟩ := H
          refine zW_iald rfl (by decide) rfl (by decide) e_j8 h9 ?_
          refine zW_gh 256 [some (.ref 75), some (.int x1), some (.int (Int32.ofNat k_x2)), some (.int (Int32.ofNat (3272 + (5 * k_x2)))), some (.int (m ((3272 + (5 * k_x2)) + 1))), some (.int (m ((3272 + (5 * k_x2)) + 2))), none, none] [.int (m ((3272 + (5 * k_x2)) + 1)), .ref 81, .int (vf j8), .int (m ((3272 + (5 * k_x2)) + 4)), .int (m ((3272 + (5 * k_x2)) + 3)), .int (0 : Int32), .int (0 : Int32), .int x1, .ref 75] 3 (fun f => rfl) ?_
          refine zW_iald rfl (by decide) rfl (by decide) e_j8 h9 ?_
          refine zW_fg (L' := [some (.ref 75), some (.int x1), some (.int (Int32.ofNat k_x2)), none, some (.int (m ((3272 + (5 * k_x2)) + 1))), none, none, none]) (zle_s _ (zle_s _ (zle_s _ (zle_n _ (zle_s _ (zle_n _ (zle_s _ (zle_s _ zle_nil)))))))) ?_
          exact zW_cl rfl rfl rfl rfl rfl H
      · have c9 : (m (3272 + (5 * k_x2))) = (4 : Int32) := (by simpa [zcmp] using c)
        replace H := H.2 c9
        refine zW_gh 147 [some (.ref 75), some (.int x1), some (.int (Int32.ofNat k_x2)), some (.int (Int32.ofNat (3272 + (5 * k_x2)))), some (.int (m ((3272 + (5 * k_x2)) + 1))), some (.int (m ((3272 + (5 * k_x2)) + 2))), none, none] [.int (m ((3272 + (5 * k_x2)) + 2)), .ref 80, .int x1, .ref 75] 5 (fun f => rfl) ?_
        obtain ⟨j11, e_j11, H⟩ := H
        obtain ⟨h12, H⟩ := H
        refine zW_iald rfl (by decide) rfl (by decide) e_j11 h12 ?_
        refine zW_gh 154 [some (.ref 75), some (.int x1), some (.int (Int32.ofNat k_x2)), some (.int (Int32.ofNat (3272 + (5 * k_x2)))), some (.int (m ((3272 + (5 * k_x2)) + 1))), some (.int (m ((3272 + (5 * k_x2)) + 2))), none, none] [.int (m ((3272 + (5 * k_x2)) + 2)), .ref 81, .int (vf j11), .int x1, .ref 75] 3 (fun f => rfl) ?_
        refine zW_iald rfl (by decide) rfl (by decide) e_j11 h12 ?_
        refine zW_gh 162 [some (.ref 75), some (.int x1), some (.int (Int32.ofNat k_x2)), some (.int (Int32.ofNat (3272 + (5 * k_x2)))), some (.int (m ((3272 + (5 * k_x2)) + 1))), some (.int (m ((3272 + (5 * k_x2)) + 2))), none, none] [.int ((Int32.ofNat (3272 + (5 * k_x2))) + (3 : Int32)), .ref 76, .int (vs j11), .int (vf j11), .int x1, .ref 75] 5 (fun f => rfl) ?_
        obtain ⟨h14, H⟩ := H
        refine zW_iald rfl (by decide) rfl (by decide) (zN_a rfl rfl) h14 ?_
        refine zW_gh 170 [some (.ref 75), some (.int x1), some (.int (Int32.ofNat k_x2)), some (.int (Int32.ofNat (3272 + (5 * k_x2)))), some (.int (m ((3272 + (5 * k_x2)) + 1))), some (.int (m ((3272 + (5 * k_x2)) + 2))), none, none] [.int ((Int32.ofNat (3272 + (5 * k_x2))) + (4 : Int32)), .ref 76, .int (m ((3272 + (5 * k_x2)) + 3)), .int (vs j11), .int (vf j11), .int x1, .ref 75] 5 (fun f => rfl) ?_
        obtain ⟨h15, H⟩ := H
        refine zW_iald rfl (by decide) rfl (by decide) (zN_a rfl rfl) h15 ?_
        refine zW_gh 177 [some (.ref 75), some (.int x1), some (.int (Int32.ofNat k_x2)), some (.int (Int32.ofNat (3272 + (5 * k_x2)))), some (.int (m ((3272 + (5 * k_x2)) + 1))), some (.int (m ((3272 + (5 * k_x2)) + 2))), none, none] [.int (m ((3272 + (5 * k_x2)) + 1)), .ref 80, .int (m ((3272 + (5 * k_x2)) + 4)), .int (m ((3272 + (5 * k_x2)) + 3)), .int (vs j11), .int (vf j11), .int x1, .ref 75] 3 (fun f => rfl) ?_
        obtain ⟨j16, e_j16, H⟩ := H
        obtain ⟨h17, H⟩ := H
        refine zW_iald rfl (by decide) rfl (by decide) e_j16 h17 ?_
        refine zW_gh 184 [some (.ref 75), some (.int x1), some (.int (Int32.ofNat k_x2)), some (.int (Int32.ofNat (3272 + (5 * k_x2)))), some (.int (m ((3272 + (5 * k_x2)) + 1))), some (.int (m ((3272 + (5 * k_x2)) + 2))), none, none] [.int (m ((3272 + (5 * k_x2)) + 1)), .ref 81, .int (vf j16), .int (m ((3272 + (5 * k_x2)) + 4)), .int (m ((3272 + (5 * k_x2)) + 3)), .int (vs j11), .int (vf j11), .int x1, .ref 75] 3 (fun f => rfl) ?_
        refine zW_iald rfl (by decide) rfl (by decide) e_j16 h17 ?_
        refine zW_fg (L' := [some (.ref 75), some (.int x1), some (.int (Int32.ofNat k_x2)), none, none, some (.int (m ((3272 + (5 * k_x2)) + 2))), none, none]) (zle_s _ (zle_s _ (zle_s _ (zle_n _ (zle_n _ (zle_s _ (zle_s _ (zle_s _ zle_nil)))))))) ?_
        exact zW_cl rfl rfl rfl rfl rfl H
    · have c9 : (m (3272 + (5 * k_x2))) = (3 : Int32) := (by simpa [zcmp] using c)
      replace H := H.2 c9
      refine zW_gh 68 [some (.ref 75), some (.int x1), some (.int (Int32.ofNat k_x2)), some (.int (Int32.ofNat (3272 + (5 * k_x2)))), some (.int (m ((3272 + (5 * k_x2)) + 1))), some (.int (m ((3272 + (5 * k_x2)) + 2))), none, none] [.int (m ((3272 + (5 * k_x2)) + 1)), .ref 80] 3 (fun f => rfl) ?_
      obtain ⟨j19, e_j19, H⟩ := H
      obtain ⟨h20, H⟩ := H
      refine zW_iald rfl (by decide) rfl (by decide) e_j19 h20 ?_
      refine zW_gh 77 [some (.ref 75), some (.int x1), some (.int (Int32.ofNat k_x2)), some (.int (Int32.ofNat (3272 + (5 * k_x2)))), some (.int (m ((3272 + (5 * k_x2)) + 1))), some (.int (m ((3272 + (5 * k_x2)) + 2))), some (.int (vf j19)), none] [.int (m ((3272 + (5 * k_x2)) + 1)), .ref 81] 4 (fun f => rfl) ?_
      refine zW_iald rfl (by decide) rfl (by decide) e_j19 h20 ?_
      refine zW_gh 92 [some (.ref 75), some (.int x1), some (.int (Int32.ofNat k_x2)), some (.int (Int32.ofNat (3272 + (5 * k_x2)))), some (.int (m ((3272 + (5 * k_x2)) + 1))), some (.int (m ((3272 + (5 * k_x2)) + 2))), some (.int (vf j19)), some (.int (vs j19))] [.int (m ((3272 + (5 * k_x2)) + 2)), .ref 80, .int (m ((3272 + (5 * k_x2)) + 1)), .ref 80] 7 (fun f => rfl) ?_
      obtain ⟨j22, e_j22, H⟩ := H
      obtain ⟨h23, H⟩ := H
      refine zW_iald rfl (by decide) rfl (by decide) e_j22 h23 ?_
      refine zW_iast rfl (by decide) rfl (by decide) zu_80 e_j19 h20 ?_
      refine zW_gh 106 [some (.ref 75), some (.int x1), some (.int (Int32.ofNat k_x2)), some (.int (Int32.ofNat (3272 + (5 * k_x2)))), some (.int (m ((3272 + (5 * k_x2)) + 1))), some (.int (m ((3272 + (5 * k_x2)) + 2))), some (.int (vf j19)), some (.int (vs j19))] [.int (m ((3272 + (5 * k_x2)) + 2)), .ref 81, .int (m ((3272 + (5 * k_x2)) + 1)), .ref 81] 6 (fun f => rfl) ?_
      refine zW_iald rfl (by decide) rfl (by decide) e_j22 h23 ?_
      refine zW_iast rfl (by decide) rfl (by decide) zu_81 e_j19 h20 ?_
      refine zW_gh 116 [some (.ref 75), some (.int x1), some (.int (Int32.ofNat k_x2)), some (.int (Int32.ofNat (3272 + (5 * k_x2)))), some (.int (m ((3272 + (5 * k_x2)) + 1))), some (.int (m ((3272 + (5 * k_x2)) + 2))), some (.int (vf j19)), some (.int (vs j19))] [.int (vf j19), .int (m ((3272 + (5 * k_x2)) + 2)), .ref 80] 4 (fun f => rfl) ?_
      refine zW_iast rfl (by decide) rfl (by decide) zu_80 e_j22 h23 ?_
      refine zW_gh 125 [some (.ref 75), some (.int x1), some (.int (Int32.ofNat k_x2)), some (.int (Int32.ofNat (3272 + (5 * k_x2)))), some (.int (m ((3272 + (5 * k_x2)) + 1))), some (.int (m ((3272 + (5 * k_x2)) + 2))), some (.int (vf j19)), some (.int (vs j19))] [.int (vs j19), .int (m ((3272 + (5 * k_x2)) + 2)), .ref 81] 4 (fun f => rfl) ?_
      refine zW_iast rfl (by decide) rfl (by decide) zu_81 e_j22 h23 ?_
      refine zW_gh 282 [some (.ref 75), some (.int x1), some (.int (Int32.ofNat k_x2)), some (.int (Int32.ofNat (3272 + (5 * k_x2)))), some (.int (m ((3272 + (5 * k_x2)) + 1))), some (.int (m ((3272 + (5 * k_x2)) + 2))), some (.int (vf j19)), some (.int (vs j19))] [] 1 (fun f => rfl) ?_
      refine zW_inc [some (.ref 75), some (.int x1), some (.int ((Int32.ofNat k_x2) + Int32.ofInt (-1))), some (.int (Int32.ofNat (3272 + (5 * k_x2)))), some (.int (m ((3272 + (5 * k_x2)) + 1))), some (.int (m ((3272 + (5 * k_x2)) + 2))), some (.int (vf j19)), some (.int (vs j19))] rfl rfl rfl ?_
      refine zW_gh 20 [some (.ref 75), some (.int x1), some (.int ((Int32.ofNat k_x2) + Int32.ofInt (-1))), some (.int (Int32.ofNat (3272 + (5 * k_x2)))), some (.int (m ((3272 + (5 * k_x2)) + 1))), some (.int (m ((3272 + (5 * k_x2)) + 2))), some (.int (vf j19)), some (.int (vs j19))] [] 1 (fun f => rfl) ?_
      refine zW_fg (L' := [some (.ref 75), some (.int x1), some (.int ((Int32.ofNat k_x2) + Int32.ofInt (-1))), none, none, none, none, none]) (zle_s _ (zle_s _ (zle_s _ (zle_n _ (zle_n _ (zle_n _ (zle_n _ (zle_n _ zle_nil)))))))) ?_
      exact H
set_option maxRecDepth 20000 in
theorem b210_260 {K : zKt} {code rf rs pr pn : Int32} {bad : Bool} {J : zJt} {m pa pb pc vf vs : Nat → Int32} {B : zBt} {w : Nat → Int64} {p : Nat × Nat} {Q : zR → zH → Prop} {x2 : Nat} {x1 x4 : Int32} (H : (∃ j1, x4 = Int32.ofNat j1 ∧ (j1 < 4 ∧ zW zm_210 20 [some (.ref 75), some (.int x1), some (.int ((Int32.ofNat x2) + Int32.ofInt (-1))), none, none, none, none, none] [] p (zh K (code, rf, rs, bad, pr, pn, J) (m, pa, pb, pc, (va_up vf j1 rf), (va_up vs j1 rs), B) w) Q))) : zW zm_210 260 [some (.ref 75), some (.int x1), some (.int (Int32.ofNat x2)), none, some (.int x4), none, none, none] [] p (zh K (code, rf, rs, bad, pr, pn, J) (m, pa, pb, pc, vf, vs, B) w) Q := by
  refine zW_gh 270 [some (.ref 75), some (.int x1), some (.int (Int32.ofNat x2)), none, some (.int x4), none, none, none] [.int rf, .int x4, .ref 80] 5 (fun f => rfl) ?_
  obtain ⟨j1, e_j1, H⟩ := H
  obtain ⟨h2, H⟩ := H
  refine zW_iast rfl (by decide) rfl (by decide) zu_80 e_j1 h2 ?_
  refine zW_gh 281 [some (.ref 75), some (.int x1), some (.int (Int32.ofNat x2)), none, some (.int x4), none, none, none] [.int rs, .int x4, .ref 81] 5 (fun f => rfl) ?_
  refine zW_iast rfl (by decide) rfl (by decide) zu_81 e_j1 h2 ?_
  refine zW_inc [some (.ref 75), some (.int x1), some (.int ((Int32.ofNat x2) + Int32.ofInt (-1))), none, some (.int x4), none, none, none] rfl rfl rfl ?_
  refine zW_gh 20 [some (.ref 75), some (.int x1), some (.int ((Int32.ofNat x2) + Int32.ofInt (-1))), none, some (.int x4), none, none, none] [] 1 (fun f => rfl) ?_
  refine zW_fg (L' := [some (.ref 75), some (.int x1), some (.int ((Int32.ofNat x2) + Int32.ofInt (-1))), none, none, none, none, none]) (zle_s _ (zle_s _ (zle_s _ (zle_s _ (zle_n _ (zle_s _ (zle_s _ (zle_s _ zle_nil)))))))) ?_
  exact H
set_option maxRecDepth 20000 in
theorem b210_188 {K : zKt} {code rf rs pr pn : Int32} {bad : Bool} {J : zJt} {m pa pb pc vf vs : Nat → Int32} {B : zBt} {w : Nat → Int64} {p : Nat × Nat} {Q : zR → zH → Prop} {x2 : Nat} {x1 x5 : Int32} (H : (∃ j1, x5 = Int32.ofNat j1 ∧ (j1 < 4 ∧ zW zm_210 20 [some (.ref 75), some (.int x1), some (.int ((Int32.ofNat x2) + Int32.ofInt (-1))), none, none, none, none, none] [] p (zh K (code, rf, rs, bad, pr, pn, J) (m, pa, pb, pc, (va_up vf j1 rf), (va_up vs j1 rs), B) w) Q))) : zW zm_210 188 [some (.ref 75), some (.int x1), some (.int (Int32.ofNat x2)), none, none, some (.int x5), none, none] [] p (zh K (code, rf, rs, bad, pr, pn, J) (m, pa, pb, pc, vf, vs, B) w) Q := by
  refine zW_gh 198 [some (.ref 75), some (.int x1), some (.int (Int32.ofNat x2)), none, none, some (.int x5), none, none] [.int rf, .int x5, .ref 80] 5 (fun f => rfl) ?_
  obtain ⟨j1, e_j1, H⟩ := H
  obtain ⟨h2, H⟩ := H
  refine zW_iast rfl (by decide) rfl (by decide) zu_80 e_j1 h2 ?_
  refine zW_gh 209 [some (.ref 75), some (.int x1), some (.int (Int32.ofNat x2)), none, none, some (.int x5), none, none] [.int rs, .int x5, .ref 81] 5 (fun f => rfl) ?_
  refine zW_iast rfl (by decide) rfl (by decide) zu_81 e_j1 h2 ?_
  refine zW_gh 282 [some (.ref 75), some (.int x1), some (.int (Int32.ofNat x2)), none, none, some (.int x5), none, none] [] 1 (fun f => rfl) ?_
  refine zW_inc [some (.ref 75), some (.int x1), some (.int ((Int32.ofNat x2) + Int32.ofInt (-1))), none, none, some (.int x5), none, none] rfl rfl rfl ?_
  refine zW_gh 20 [some (.ref 75), some (.int x1), some (.int ((Int32.ofNat x2) + Int32.ofInt (-1))), none, none, some (.int x5), none, none] [] 1 (fun f => rfl) ?_
  refine zW_fg (L' := [some (.ref 75), some (.int x1), some (.int ((Int32.ofNat x2) + Int32.ofInt (-1))), none, none, none, none, none]) (zle_s _ (zle_s _ (zle_s _ (zle_s _ (zle_s _ (zle_n _ (zle_s _ (zle_s _ zle_nil)))))))) ?_
  exact H
set_option maxRecDepth 20000 in
theorem b207 {K : zKt} {code rf rs pr pn : Int32} {bad : Bool} {J : zJt} {m pa pb pc vf vs : Nat → Int32} {B : zBt} {w : Nat → Int64} {p : Nat × Nat} {Q : zR → zH → Prop} {a0 a1 a2 : Int32} (H : (((zslot a0) = false → Q (.inl (some (.int (0 : Int32)))) (zh K ((1 : Int32), rf, rs, bad, pr, pn, J) (m, pa, pb, pc, vf, vs, B) w)) ∧ ((zslot a0) = true → ∀ k_a0, k_a0 < 3 → a0 = Int32.ofNat k_a0 → (((zslot a1) = false → Q (.inl (some (.int (0 : Int32)))) (zh K ((1 : Int32), rf, rs, bad, pr, pn, J) (m, pa, pb, pc, vf, vs, B) w)) ∧ ((zslot a1) = true → ∀ k_a1, k_a1 < 3 → a1 = Int32.ofNat k_a1 → (((zslot a2) = true → ∀ k_a2, k_a2 < 3 → a2 = Int32.ofNat k_a2 → (1068 * k_a0 < 5340 ∧ (((decide (m (1068 * k_a0) = -1)) = true → Q (.inl (some (.int (0 : Int32)))) (zh K ((2 : Int32), rf, rs, bad, pr, pn, J) (m, pa, pb, pc, vf, vs, B) w)) ∧ ((decide (m (1068 * k_a0) = -1)) = false → (1068 * k_a1 < 5340 ∧ (((decide (m (1068 * k_a1) = -1)) = true → Q (.inl (some (.int (0 : Int32)))) (zh K ((2 : Int32), rf, rs, bad, pr, pn, J) (m, pa, pb, pc, vf, vs, B) w)) ∧ ((decide (m (1068 * k_a1) = -1)) = false → (((1068 * k_a0) + 0) < 5340 ∧ (((1068 * k_a1) + 0) < 5340 ∧ ((¬ (m ((1068 * k_a0) + 0)) = (m ((1068 * k_a1) + 0)) → Q (.inl (some (.int (0 : Int32)))) (zh K ((2 : Int32), rf, rs, bad, pr, pn, J) (m, pa, pb, pc, vf, vs, B) w)) ∧ ((m ((1068 * k_a0) + 0)) = (m ((1068 * k_a1) + 0)) → (((1068 * k_a1) + 2) < 5340 ∧ ((¬ (m ((1068 * k_a1) + 2)) = (1 : Int32) → Q (.inl (some (.int (0 : Int32)))) (zh K ((2 : Int32), rf, rs, bad, pr, pn, J) (m, pa, pb, pc, vf, vs, B) w)) ∧ ((m ((1068 * k_a1) + 2)) = (1 : Int32) → (((1068 * k_a0) + 1) < 5340 ∧ (((1068 * k_a1) + 1) < 5340 ∧ (((m ((1068 * k_a0) + 1)) = (m ((1068 * k_a1) + 1)) → zT zm_208 [.ref 75, .int (Int32.ofNat k_a0)] p (zh K ((0 : Int32), rf, rs, bad, pr, pn, J) (m, pa, pb, pc, vf, vs, B) w) (zK zm_207 128 [some (.ref 75), none, none, some (.int (Int32.ofNat k_a2)), some (.int (Int32.ofNat (1068 * k_a0))), some (.int (Int32.ofNat (1068 * k_a1))), none, none, none, none] [] p Q)) ∧ (¬ (m ((1068 * k_a0) + 1)) = (m ((1068 * k_a1) + 1)) → Q (.inl (some (.int (0 : Int32)))) (zh K ((2 : Int32), rf, rs, bad, pr, pn, J) (m, pa, pb, pc, vf, vs, B) w))))))))))))))))))) ∧ ((zslot a2) = false → Q (.inl (some (.int (0 : Int32)))) (zh K ((1 : Int32), rf, rs, bad, pr, pn, J) (m, pa, pb, pc, vf, vs, B) w)))))))) : zT zm_207 [.ref 75, .int a0, .int a1, .int a2] p (zh K (code, rf, rs, bad, pr, pn, J) (m, pa, pb, pc, vf, vs, B) w) Q := by
  change zW zm_207 0 [some (.ref 75), some (.int a0), some (.int a1), some (.int a2), none, none, none, none, none, none] [] p _ Q
  refine zW_gh 2 [some (.ref 75), some (.int a0), some (.int a1), some (.int a2), none, none, none, none, none, none] [.int (0 : Int32), .ref 75] 2 (fun f => rfl) ?_
  refine zW_go (pc' := 5) (L' := [some (.ref 75), some (.int a0), some (.int a1), some (.int a2), none, none, none, none, none, none]) (st' := []) (h' := (va_up (zh K (code, rf, rs, bad, pr, pn, J) (m, pa, pb, pc, vf, vs, B) w) 75 (.inr (7, zfl ((0 : Int32), rf, rs, bad, pr, pn, J))))) 1 (fun f => rfl) ?_
  refine zW_eq zu_75 ?_
  refine zW_gh 6 [some (.ref 75), some (.int a0), some (.int a1), some (.int a2), none, none, none, none, none, none] [.int a0] 1 (fun f => rfl) ?_
  refine zW_cl rfl rfl rfl rfl rfl (s140 ?_)
  change zW zm_207 9 [some (.ref 75), some (.int a0), some (.int a1), some (.int a2), none, none, none, none, none, none] [.int (zbi (zslot a0))] p _ Q
  refine zW_bh (zcmp .eq (zbi (zslot a0)) (0 : Int32)) 26 12 [some (.ref 75), some (.int a0), some (.int a1), some (.int a2), none, none, none, none, none, none] [] 1 (fun f => rfl) (fun c => ?_) (fun c => ?_)
  · have c9 : (zslot a0) = false := ((Bool.not_eq_true' _).mp ((zcB_eq _).symm.trans c))
    replace H := H.1 c9
    refine zW_gh 28 [some (.ref 75), some (.int a0), some (.int a1), some (.int a2), none, none, none, none, none, none] [.int (1 : Int32), .ref 75] 2 (fun f => rfl) ?_
    refine zW_cl rfl rfl rfl rfl rfl (s142 ?_)
    change zW zm_207 31 [some (.ref 75), some (.int a0), some (.int a1), some (.int a2), none, none, none, none, none, none] [.int (0 : Int32)] p _ Q
    exact zW_rh (some (.int (0 : Int32))) 1 (fun f => rfl) H
  · have c9 : (zslot a0) = true := ((Bool.not_eq_false' _).mp ((zcB_eq _).symm.trans c))
    replace H := H.2 c9
    obtain ⟨k_a0, h_k_a0, e_k_a0⟩ := zslot_n c9
    replace H := H k_a0 h_k_a0 e_k_a0
    subst e_k_a0
    refine zW_gh 13 [some (.ref 75), some (.int (Int32.ofNat k_a0)), some (.int a1), some (.int a2), none, none, none, none, none, none] [.int a1] 1 (fun f => rfl) ?_
    refine zW_cl rfl rfl rfl rfl rfl (s140 ?_)
    change zW zm_207 16 [some (.ref 75), some (.int (Int32.ofNat k_a0)), some (.int a1), some (.int a2), none, none, none, none, none, none] [.int (zbi (zslot a1))] p _ Q
    refine zW_bh (zcmp .eq (zbi (zslot a1)) (0 : Int32)) 26 19 [some (.ref 75), some (.int (Int32.ofNat k_a0)), some (.int a1), some (.int a2), none, none, none, none, none, none] [] 1 (fun f => rfl) (fun c => ?_) (fun c => ?_)
    · have c9 : (zslot a1) = false := ((Bool.not_eq_true' _).mp ((zcB_eq _).symm.trans c))
      replace H := H.1 c9
      refine zW_gh 28 [some (.ref 75), some (.int (Int32.ofNat k_a0)), some (.int a1), some (.int a2), none, none, none, none, none, none] [.int (1 : Int32), .ref 75] 2 (fun f => rfl) ?_
      refine zW_cl rfl rfl rfl rfl rfl (s142 ?_)
      change zW zm_207 31 [some (.ref 75), some (.int (Int32.ofNat k_a0)), some (.int a1), some (.int a2), none, none, none, none, none, none] [.int (0 : Int32)] p _ Q
      exact zW_rh (some (.int (0 : Int32))) 1 (fun f => rfl) H
    · have c9 : (zslot a1) = true := ((Bool.not_eq_false' _).mp ((zcB_eq _).symm.trans c))
      replace H := H.2 c9
      obtain ⟨k_a1, h_k_a1, e_k_a1⟩ := zslot_n c9
      replace H := H k_a1 h_k_a1 e_k_a1
      subst e_k_a1
      refine zW_gh 20 [some (.ref 75), some (.int (Int32.ofNat k_a0)), some (.int (Int32.ofNat k_a1)), some (.int a2), none, none, none, none, none, none] [.int a2] 1 (fun f => rfl) ?_
      refine zW_cl rfl rfl rfl rfl rfl (s140 ?_)
      change zW zm_207 23 [some (.ref 75), some (.int (Int32.ofNat k_a0)), some (.int (Int32.ofNat k_a1)), some (.int a2), none, none, none, none, none, none] [.int (zbi (zslot a2))] p _ Q
      refine zW_bh (zcmp .ne (zbi (zslot a2)) (0 : Int32)) 32 26 [some (.ref 75), some (.int (Int32.ofNat k_a0)), some (.int (Int32.ofNat k_a1)), some (.int a2), none, none, none, none, none, none] [] 1 (fun f => rfl) (fun c => ?_) (fun c => ?_)
      · have c9 : (zslot a2) = true := ((zcB_ne _).symm.trans c)
        replace H := H.1 c9
        obtain ⟨k_a2, h_k_a2, e_k_a2⟩ := zslot_n c9
        replace H := H k_a2 h_k_a2 e_k_a2
        subst e_k_a2
        refine zW_gh 39 [some (.ref 75), some (.int (Int32.ofNat k_a0)), some (.int (Int32.ofNat k_a1)), some (.int (Int32.ofNat k_a2)), some (.int ((1068 : Int32) * (Int32.ofNat k_a0))), none, none, none, none, none] [] 4 (fun f => rfl) ?_
        rw [show ((1068 : Int32) * (Int32.ofNat k_a0)) = Int32.ofNat (1068 * k_a0) from (zN_m rfl rfl)]
        refine zW_gh 46 [some (.ref 75), some (.int (Int32.ofNat k_a0)), some (.int (Int32.ofNat k_a1)), some (.int (Int32.ofNat k_a2)), some (.int (Int32.ofNat (1068 * k_a0))), some (.int ((1068 : Int32) * (Int32.ofNat k_a1))), none, none, none, none] [] 4 (fun f => rfl) ?_
        rw [show ((1068 : Int32) * (Int32.ofNat k_a1)) = Int32.ofNat (1068 * k_a1) from (zN_m rfl rfl)]
        refine zW_gh 48 [some (.ref 75), some (.int (Int32.ofNat k_a0)), some (.int (Int32.ofNat k_a1)), some (.int (Int32.ofNat k_a2)), some (.int (Int32.ofNat (1068 * k_a0))), some (.int (Int32.ofNat (1068 * k_a1))), none, none, none, none] [.int (Int32.ofNat k_a0), .ref 75] 2 (fun f => rfl) ?_
        obtain ⟨h1, H⟩ := H
        refine zW_cl rfl rfl rfl rfl rfl ((s144 rfl) h1 ?_)
        change zW zm_207 51 [some (.ref 75), some (.int (Int32.ofNat k_a0)), some (.int (Int32.ofNat k_a1)), some (.int (Int32.ofNat k_a2)), some (.int (Int32.ofNat (1068 * k_a0))), some (.int (Int32.ofNat (1068 * k_a1))), none, none, none, none] [.int (zbi (decide (m (1068 * k_a0) = -1)))] p _ Q
        refine zW_bh (zcmp .ne (zbi (decide (m (1068 * k_a0) = -1))) (0 : Int32)) 117 54 [some (.ref 75), some (.int (Int32.ofNat k_a0)), some (.int (Int32.ofNat k_a1)), some (.int (Int32.ofNat k_a2)), some (.int (Int32.ofNat (1068 * k_a0))), some (.int (Int32.ofNat (1068 * k_a1))), none, none, none, none] [] 1 (fun f => rfl) (fun c => ?_) (fun c => ?_)
        · have c9 : (decide (m (1068 * k_a0) = -1)) = true := ((zcB_ne _).symm.trans c)
          replace H := H.1 c9
          refine zW_gh 119 [some (.ref 75), some (.int (Int32.ofNat k_a0)), some (.int (Int32.ofNat k_a1)), some (.int (Int32.ofNat k_a2)), some (.int (Int32.ofNat (1068 * k_a0))), some (.int (Int32.ofNat (1068 * k_a1))), none, none, none, none] [.int (2 : Int32), .ref 75] 2 (fun f => rfl) ?_
          refine zW_cl rfl rfl rfl rfl rfl (s142 ?_)
          change zW zm_207 122 [some (.ref 75), some (.int (Int32.ofNat k_a0)), some (.int (Int32.ofNat k_a1)), some (.int (Int32.ofNat k_a2)), some (.int (Int32.ofNat (1068 * k_a0))), some (.int (Int32.ofNat (1068 * k_a1))), none, none, none, none] [.int (0 : Int32)] p _ Q
          exact zW_rh (some (.int (0 : Int32))) 1 (fun f => rfl) H
        · have c9 : (decide (m (1068 * k_a0) = -1)) = false := ((zcB_ne _).symm.trans c)
          replace H := H.2 c9
          refine zW_gh 56 [some (.ref 75), some (.int (Int32.ofNat k_a0)), some (.int (Int32.ofNat k_a1)), some (.int (Int32.ofNat k_a2)), some (.int (Int32.ofNat (1068 * k_a0))), some (.int (Int32.ofNat (1068 * k_a1))), none, none, none, none] [.int (Int32.ofNat k_a1), .ref 75] 2 (fun f => rfl) ?_
          obtain ⟨h2, H⟩ := H
          refine zW_cl rfl rfl rfl rfl rfl ((s144 rfl) h2 ?_)
          change zW zm_207 59 [some (.ref 75), some (.int (Int32.ofNat k_a0)), some (.int (Int32.ofNat k_a1)), some (.int (Int32.ofNat k_a2)), some (.int (Int32.ofNat (1068 * k_a0))), some (.int (Int32.ofNat (1068 * k_a1))), none, none, none, none] [.int (zbi (decide (m (1068 * k_a1) = -1)))] p _ Q
          refine zW_bh (zcmp .ne (zbi (decide (m (1068 * k_a1) = -1))) (0 : Int32)) 117 62 [some (.ref 75), some (.int (Int32.ofNat k_a0)), some (.int (Int32.ofNat k_a1)), some (.int (Int32.ofNat k_a2)), some (.int (Int32.ofNat (1068 * k_a0))), some (.int (Int32.ofNat (1068 * k_a1))), none, none, none, none] [] 1 (fun f => rfl) (fun c => ?_) (fun c => ?_)
          · have c9 : (decide (m (1068 * k_a1) = -1)) = true := ((zcB_ne _).symm.trans c)
            replace H := H.1 c9
            refine zW_gh 119 [some (.ref 75), some (.int (Int32.ofNat k_a0)), some (.int (Int32.ofNat k_a1)), some (.int (Int32.ofNat k_a2)), some (.int (Int32.ofNat (1068 * k_a0))), some (.int (Int32.ofNat (1068 * k_a1))), none, none, none, none] [.int (2 : Int32), .ref 75] 2 (fun f => rfl) ?_
            refine zW_cl rfl rfl rfl rfl rfl (s142 ?_)
            change zW zm_207 122 [some (.ref 75), some (.int (Int32.ofNat k_a0)), some (.int (Int32.ofNat k_a1)), some (.int (Int32.ofNat k_a2)), some (.int (Int32.ofNat (1068 * k_a0))), some (.int (Int32.ofNat (1068 * k_a1))), none, none, none, none] [.int (0 : Int32)] p _ Q
            exact zW_rh (some (.int (0 : Int32))) 1 (fun f => rfl) H
          · have c9 : (decide (m (1068 * k_a1) = -1)) = false := ((zcB_ne _).symm.trans c)
            replace H := H.2 c9
            refine zW_gh 70 [some (.ref 75), some (.int (Int32.ofNat k_a0)), some (.int (Int32.ofNat k_a1)), some (.int (Int32.ofNat k_a2)), some (.int (Int32.ofNat (1068 * k_a0))), some (.int (Int32.ofNat (1068 * k_a1))), none, none, none, none] [.int ((Int32.ofNat (1068 * k_a0)) + (0 : Int32)), .ref 76] 5 (fun f => rfl) ?_
            obtain ⟨h3, H⟩ := H
            refine zW_iald rfl (by decide) rfl (by decide) (zN_a rfl rfl) h3 ?_
            refine zW_gh 79 [some (.ref 75), some (.int (Int32.ofNat k_a0)), some (.int (Int32.ofNat k_a1)), some (.int (Int32.ofNat k_a2)), some (.int (Int32.ofNat (1068 * k_a0))), some (.int (Int32.ofNat (1068 * k_a1))), none, none, none, none] [.int ((Int32.ofNat (1068 * k_a1)) + (0 : Int32)), .ref 76, .int (m ((1068 * k_a0) + 0))] 5 (fun f => rfl) ?_
            obtain ⟨h4, H⟩ := H
            refine zW_iald rfl (by decide) rfl (by decide) (zN_a rfl rfl) h4 ?_
            refine zW_bh (zcmp .ne (m ((1068 * k_a0) + 0)) (m ((1068 * k_a1) + 0))) 117 83 [some (.ref 75), some (.int (Int32.ofNat k_a0)), some (.int (Int32.ofNat k_a1)), some (.int (Int32.ofNat k_a2)), some (.int (Int32.ofNat (1068 * k_a0))), some (.int (Int32.ofNat (1068 * k_a1))), none, none, none, none] [] 1 (fun f => rfl) (fun c => ?_) (fun c => ?_)
            · have c9 : ¬ (m ((1068 * k_a0) + 0)) = (m ((1068 * k_a1) + 0)) := (by simpa [zcmp] using c)
              replace H := H.1 c9
              refine zW_gh 119 [some (.ref 75), some (.int (Int32.ofNat k_a0)), some (.int (Int32.ofNat k_a1)), some (.int (Int32.ofNat k_a2)), some (.int (Int32.ofNat (1068 * k_a0))), some (.int (Int32.ofNat (1068 * k_a1))), none, none, none, none] [.int (2 : Int32), .ref 75] 2 (fun f => rfl) ?_
              refine zW_cl rfl rfl rfl rfl rfl (s142 ?_)
              change zW zm_207 122 [some (.ref 75), some (.int (Int32.ofNat k_a0)), some (.int (Int32.ofNat k_a1)), some (.int (Int32.ofNat k_a2)), some (.int (Int32.ofNat (1068 * k_a0))), some (.int (Int32.ofNat (1068 * k_a1))), none, none, none, none] [.int (0 : Int32)] p _ Q
              exact zW_rh (some (.int (0 : Int32))) 1 (fun f => rfl) H
            · have c9 : (m ((1068 * k_a0) + 0)) = (m ((1068 * k_a1) + 0)) := (by simpa [zcmp] using c)
              replace H := H.2 c9
              refine zW_gh 91 [some (.ref 75), some (.int (Int32.ofNat k_a0)), some (.int (Int32.ofNat k_a1)), some (.int (Int32.ofNat k_a2)), some (.int (Int32.ofNat (1068 * k_a0))), some (.int (Int32.ofNat (1068 * k_a1))), none, none, none, none] [.int ((Int32.ofNat (1068 * k_a1)) + (2 : Int32)), .ref 76] 5 (fun f => rfl) ?_
              obtain ⟨h5, H⟩ := H
              refine zW_iald rfl (by decide) rfl (by decide) (zN_a rfl rfl) h5 ?_
              refine zW_bh (zcmp .ne (m ((1068 * k_a1) + 2)) (1 : Int32)) 117 96 [some (.ref 75), some (.int (Int32.ofNat k_a0)), some (.int (Int32.ofNat k_a1)), some (.int (Int32.ofNat k_a2)), some (.int (Int32.ofNat (1068 * k_a0))), some (.int (Int32.ofNat (1068 * k_a1))), none, none, none, none] [] 2 (fun f => rfl) (fun c => ?_) (fun c => ?_)
              · have c9 : ¬ (m ((1068 * k_a1) + 2)) = (1 : Int32) := (by simpa [zcmp] using c)
                replace H := H.1 c9
                refine zW_gh 119 [some (.ref 75), some (.int (Int32.ofNat k_a0)), some (.int (Int32.ofNat k_a1)), some (.int (Int32.ofNat k_a2)), some (.int (Int32.ofNat (1068 * k_a0))), some (.int (Int32.ofNat (1068 * k_a1))), none, none, none, none] [.int (2 : Int32), .ref 75] 2 (fun f => rfl) ?_
                refine zW_cl rfl rfl rfl rfl rfl (s142 ?_)
                change zW zm_207 122 [some (.ref 75), some (.int (Int32.ofNat k_a0)), some (.int (Int32.ofNat k_a1)), some (.int (Int32.ofNat k_a2)), some (.int (Int32.ofNat (1068 * k_a0))), some (.int (Int32.ofNat (1068 * k_a1))), none, none, none, none] [.int (0 : Int32)] p _ Q
                exact zW_rh (some (.int (0 : Int32))) 1 (fun f => rfl) H
              · have c9 : (m ((1068 * k_a1) + 2)) = (1 : Int32) := (by simpa [zcmp] using c)
                replace H := H.2 c9
                refine zW_gh 104 [some (.ref 75), some (.int (Int32.ofNat k_a0)), some (.int (Int32.ofNat k_a1)), some (.int (Int32.ofNat k_a2)), some (.int (Int32.ofNat (1068 * k_a0))), some (.int (Int32.ofNat (1068 * k_a1))), none, none, none, none] [.int ((Int32.ofNat (1068 * k_a0)) + (1 : Int32)), .ref 76] 5 (fun f => rfl) ?_
                obtain ⟨h6, H⟩ := H
                refine zW_iald rfl (by decide) rfl (by decide) (zN_a rfl rfl) h6 ?_
                refine zW_gh 113 [some (.ref 75), some (.int (Int32.ofNat k_a0)), some (.int (Int32.ofNat k_a1)), some (.int (Int32.ofNat k_a2)), some (.int (Int32.ofNat (1068 * k_a0))), some (.int (Int32.ofNat (1068 * k_a1))), none, none, none, none] [.int ((Int32.ofNat (1068 * k_a1)) + (1 : Int32)), .ref 76, .int (m ((1068 * k_a0) + 1))] 5 (fun f => rfl) ?_
                obtain ⟨h7, H⟩ := H
                refine zW_iald rfl (by decide) rfl (by decide) (zN_a rfl rfl) h7 ?_
                refine zW_bh (zcmp .eq (m ((1068 * k_a0) + 1)) (m ((1068 * k_a1) + 1))) 123 117 [some (.ref 75), some (.int (Int32.ofNat k_a0)), some (.int (Int32.ofNat k_a1)), some (.int (Int32.ofNat k_a2)), some (.int (Int32.ofNat (1068 * k_a0))), some (.int (Int32.ofNat (1068 * k_a1))), none, none, none, none] [] 1 (fun f => rfl) (fun c => ?_) (fun c => ?_)
                · have c9 : (m ((1068 * k_a0) + 1)) = (m ((1068 * k_a1) + 1)) := (of_decide_eq_true c)
                  replace H := H.1 c9
                  refine zW_gh 125 [some (.ref 75), some (.int (Int32.ofNat k_a0)), some (.int (Int32.ofNat k_a1)), some (.int (Int32.ofNat k_a2)), some (.int (Int32.ofNat (1068 * k_a0))), some (.int (Int32.ofNat (1068 * k_a1))), none, none, none, none] [.int (Int32.ofNat k_a0), .ref 75] 2 (fun f => rfl) ?_
                  refine zW_fg (L' := [some (.ref 75), none, none, some (.int (Int32.ofNat k_a2)), some (.int (Int32.ofNat (1068 * k_a0))), some (.int (Int32.ofNat (1068 * k_a1))), none, none, none, none]) (zle_s _ (zle_n _ (zle_n _ (zle_s _ (zle_s _ (zle_s _ (zle_s _ (zle_s _ (zle_s _ (zle_s _ zle_nil)))))))))) ?_
                  exact zW_cl rfl rfl rfl rfl rfl H
                · have c9 : ¬ (m ((1068 * k_a0) + 1)) = (m ((1068 * k_a1) + 1)) := (of_decide_eq_false c)
                  replace H := H.2 c9
                  refine zW_gh 119 [some (.ref 75), some (.int (Int32.ofNat k_a0)), some (.int (Int32.ofNat k_a1)), some (.int (Int32.ofNat k_a2)), some (.int (Int32.ofNat (1068 * k_a0))), some (.int (Int32.ofNat (1068 * k_a1))), none, none, none, none] [.int (2 : Int32), .ref 75] 2 (fun f => rfl) ?_
                  refine zW_cl rfl rfl rfl rfl rfl (s142 ?_)
                  change zW zm_207 122 [some (.ref 75), some (.int (Int32.ofNat k_a0)), some (.int (Int32.ofNat k_a1)), some (.int (Int32.ofNat k_a2)), some (.int (Int32.ofNat (1068 * k_a0))), some (.int (Int32.ofNat (1068 * k_a1))), none, none, none, none] [.int (0 : Int32)] p _ Q
                  exact zW_rh (some (.int (0 : Int32))) 1 (fun f => rfl) H
      · have c9 : (zslot a2) = false := ((zcB_ne _).symm.trans c)
        replace H := H.2 c9
        refine zW_gh 28 [some (.ref 75), some (.int (Int32.ofNat k_a0)), some (.int (Int32.ofNat k_a1)), some (.int a2), none, none, none, none, none, none] [.int (1 : Int32), .ref 75] 2 (fun f => rfl) ?_
        refine zW_cl rfl rfl rfl rfl rfl (s142 ?_)
        change zW zm_207 31 [some (.ref 75), some (.int (Int32.ofNat k_a0)), some (.int (Int32.ofNat k_a1)), some (.int a2), none, none, none, none, none, none] [.int (0 : Int32)] p _ Q
        exact zW_rh (some (.int (0 : Int32))) 1 (fun f => rfl) H
set_option maxRecDepth 20000 in
theorem b207_128 {K : zKt} {code rf rs pr pn : Int32} {bad : Bool} {J : zJt} {m pa pb pc vf vs : Nat → Int32} {B : zBt} {w : Nat → Int64} {p : Nat × Nat} {Q : zR → zH → Prop} {x3 x4 x5 : Nat} {rv : Int32} (H : zT zm_154 [.ref 75, .int (Int32.ofNat x5), .int (4272 : Int32)] p (zh K (code, rf, rs, bad, pr, pn, J) (m, pa, pb, pc, vf, vs, B) w) (zK zm_207 139 [some (.ref 75), none, none, some (.int (Int32.ofNat x3)), some (.int (Int32.ofNat x4)), none, some (.int rv), none, none, none] [] p Q)) : zW zm_207 128 [some (.ref 75), none, none, some (.int (Int32.ofNat x3)), some (.int (Int32.ofNat x4)), some (.int (Int32.ofNat x5)), none, none, none, none] [.int rv] p (zh K (code, rf, rs, bad, pr, pn, J) (m, pa, pb, pc, vf, vs, B) w) Q := by
  refine zW_gh 136 [some (.ref 75), none, none, some (.int (Int32.ofNat x3)), some (.int (Int32.ofNat x4)), some (.int (Int32.ofNat x5)), some (.int rv), none, none, none] [.int (4272 : Int32), .int (Int32.ofNat x5), .ref 75] 4 (fun f => rfl) ?_
  refine zW_fg (L' := [some (.ref 75), none, none, some (.int (Int32.ofNat x3)), some (.int (Int32.ofNat x4)), none, some (.int rv), none, none, none]) (zle_s _ (zle_s _ (zle_s _ (zle_s _ (zle_s _ (zle_n _ (zle_s _ (zle_s _ (zle_s _ (zle_s _ zle_nil)))))))))) ?_
  exact zW_cl rfl rfl rfl rfl rfl H
set_option maxRecDepth 20000 in
theorem b207_139 {K : zKt} {code rf rs pr pn : Int32} {bad : Bool} {J : zJt} {m pa pb pc vf vs : Nat → Int32} {B : zBt} {w : Nat → Int64} {p : Nat × Nat} {Q : zR → zH → Prop} {x3 x4 : Nat} {x6 : Int32} (H : zW zm_207 142 [some (.ref 75), none, none, some (.int (Int32.ofNat x3)), some (.int (Int32.ofNat x4)), none, some (.int x6), some (.int (Int32.ofNat 0)), none, none] [] p (zh K (code, rf, rs, bad, pr, pn, J) (m, pa, pb, pc, vf, vs, B) w) Q) : zW zm_207 139 [some (.ref 75), none, none, some (.int (Int32.ofNat x3)), some (.int (Int32.ofNat x4)), none, some (.int x6), none, none, none] [] p (zh K (code, rf, rs, bad, pr, pn, J) (m, pa, pb, pc, vf, vs, B) w) Q := by
  refine zW_gh 142 [some (.ref 75), none, none, some (.int (Int32.ofNat x3)), some (.int (Int32.ofNat x4)), none, some (.int x6), some (.int (0 : Int32)), none, none] [] 2 (fun f => rfl) ?_
  exact H
set_option maxRecDepth 20000 in
theorem b207_142 {K : zKt} {code rf rs pr pn : Int32} {bad : Bool} {J : zJt} {m pa pb pc vf vs : Nat → Int32} {B : zBt} {w : Nat → Int64} {p : Nat × Nat} {Q : zR → zH → Prop} {x3 x4 x7 : Nat} {x6 : Int32} (H : (((m 3207) ≤ (Int32.ofNat x7) → ((bad = false → zT zm_209 [.ref 75, .int x6] p (zh K (code, rf, rs, bad, pr, pn, J) (m, pa, pb, pc, vf, vs, B) w) (zK zm_207 258 [some (.ref 75), none, none, some (.int (Int32.ofNat x3)), some (.int (Int32.ofNat x4)), none, none, none, none, none] [] p Q)) ∧ (bad = true → Q (.inl (some (.int (0 : Int32)))) (zh K ((3 : Int32), rf, rs, bad, pr, pn, J) (m, pa, pb, pc, vf, vs, B) w)))) ∧ (¬ (m 3207) ≤ (Int32.ofNat x7) → ((bad = true → ((bad = false → zT zm_209 [.ref 75, .int x6] p (zh K (code, rf, rs, bad, pr, pn, J) (m, pa, pb, pc, vf, vs, B) w) (zK zm_207 258 [some (.ref 75), none, none, some (.int (Int32.ofNat x3)), some (.int (Int32.ofNat x4)), none, none, none, none, none] [] p Q)) ∧ (bad = true → Q (.inl (some (.int (0 : Int32)))) (zh K ((3 : Int32), rf, rs, bad, pr, pn, J) (m, pa, pb, pc, vf, vs, B) w)))) ∧ (bad = false → ((3272 + (5 * x7)) < 5340 ∧ (((3 : Int32) ≤ (m (3272 + (5 * x7))) → zW zm_207 142 [some (.ref 75), none, none, some (.int (Int32.ofNat x3)), some (.int (Int32.ofNat x4)), none, some (.int x6), some (.int (Int32.ofNat (x7 + 1))), none, none] [] p (zh K (code, rf, rs, bad, pr, pn, J) (m, pa, pb, pc, vf, vs, B) w) Q) ∧ (¬ (3 : Int32) ≤ (m (3272 + (5 * x7))) → (((3272 + (5 * x7)) + 1) < 5340 ∧ (((3272 + (5 * x7)) + 2) < 5340 ∧ (((3272 + (5 * x7)) + 3) < 5340 ∧ (((3272 + (5 * x7)) + 4) < 5340 ∧ zT zm_175 [.ref 75, .int (4272 : Int32), .int (m (3272 + (5 * x7))), .int (m ((3272 + (5 * x7)) + 1)), .int (m ((3272 + (5 * x7)) + 2)), .int (m ((3272 + (5 * x7)) + 3)), .int (m ((3272 + (5 * x7)) + 4))] p (zh K (code, rf, rs, bad, pr, pn, J) (m, pa, pb, pc, vf, vs, B) w) (zK zm_207 233 [some (.ref 75), none, none, some (.int (Int32.ofNat x3)), some (.int (Int32.ofNat x4)), none, some (.int x6), some (.int (Int32.ofNat x7)), none, none] [] p Q))))))))))))) : zW zm_207 142 [some (.ref 75), none, none, some (.int (Int32.ofNat x3)), some (.int (Int32.ofNat x4)), none, some (.int x6), some (.int (Int32.ofNat x7)), none, none] [] p (zh K (code, rf, rs, bad, pr, pn, J) (m, pa, pb, pc, vf, vs, B) w) Q := by
  refine zW_gh 151 [some (.ref 75), none, none, some (.int (Int32.ofNat x3)), some (.int (Int32.ofNat x4)), none, some (.int x6), some (.int (Int32.ofNat x7)), none, none] [.int (3207 : Int32), .ref 76, .int (Int32.ofNat x7)] 4 (fun f => rfl) ?_
  refine zW_iald rfl (by decide) rfl (by decide) rfl (by decide) ?_
  refine zW_bh (zcmp .ge (Int32.ofNat x7) (m 3207)) 239 155 [some (.ref 75), none, none, some (.int (Int32.ofNat x3)), some (.int (Int32.ofNat x4)), none, some (.int x6), some (.int (Int32.ofNat x7)), none, none] [] 1 (fun f => rfl) (fun c => ?_) (fun c => ?_)
  · have c9 : (m 3207) ≤ (Int32.ofNat x7) := (of_decide_eq_true c)
    replace H := H.1 c9
    refine zW_bh (zcmp .eq (zbi bad) (0 : Int32)) 252 246 [some (.ref 75), none, none, some (.int (Int32.ofNat x3)), some (.int (Int32.ofNat x4)), none, some (.int x6), some (.int (Int32.ofNat x7)), none, none] [] 3 (fun f => rfl) (fun c => ?_) (fun c => ?_)
    · have c9 : bad = false := ((Bool.not_eq_true' _).mp ((zcB_eq _).symm.trans c))
      replace H := H.1 c9
      refine zW_gh 255 [some (.ref 75), none, none, some (.int (Int32.ofNat x3)), some (.int (Int32.ofNat x4)), none, some (.int x6), some (.int (Int32.ofNat x7)), none, none] [.int x6, .ref 75] 2 (fun f => rfl) ?_
      refine zW_fg (L' := [some (.ref 75), none, none, some (.int (Int32.ofNat x3)), some (.int (Int32.ofNat x4)), none, none, none, none, none]) (zle_s _ (zle_s _ (zle_s _ (zle_s _ (zle_s _ (zle_s _ (zle_n _ (zle_n _ (zle_s _ (zle_s _ zle_nil)))))))))) ?_
      exact zW_cl rfl rfl rfl rfl rfl H
    · have c9 : bad = true := ((Bool.not_eq_false' _).mp ((zcB_eq _).symm.trans c))
      replace H := H.2 c9
      refine zW_gh 248 [some (.ref 75), none, none, some (.int (Int32.ofNat x3)), some (.int (Int32.ofNat x4)), none, some (.int x6), some (.int (Int32.ofNat x7)), none, none] [.int (3 : Int32), .ref 75] 2 (fun f => rfl) ?_
      refine zW_cl rfl rfl rfl rfl rfl (s142 ?_)
      change zW zm_207 251 [some (.ref 75), none, none, some (.int (Int32.ofNat x3)), some (.int (Int32.ofNat x4)), none, some (.int x6), some (.int (Int32.ofNat x7)), none, none] [.int (0 : Int32)] p _ Q
      exact zW_rh (some (.int (0 : Int32))) 1 (fun f => rfl) H
  · have c9 : ¬ (m 3207) ≤ (Int32.ofNat x7) := (of_decide_eq_false c)
    replace H := H.2 c9
    refine zW_bh (zcmp .ne (zbi bad) (0 : Int32)) 239 162 [some (.ref 75), none, none, some (.int (Int32.ofNat x3)), some (.int (Int32.ofNat x4)), none, some (.int x6), some (.int (Int32.ofNat x7)), none, none] [] 3 (fun f => rfl) (fun c => ?_) (fun c => ?_)
    · have c9 : bad = true := ((zcB_ne _).symm.trans c)
      replace H := H.1 c9
      refine zW_bh (zcmp .eq (zbi bad) (0 : Int32)) 252 246 [some (.ref 75), none, none, some (.int (Int32.ofNat x3)), some (.int (Int32.ofNat x4)), none, some (.int x6), some (.int (Int32.ofNat x7)), none, none] [] 3 (fun f => rfl) (fun c => ?_) (fun c => ?_)
      · have c9 : bad = false := ((Bool.not_eq_true' _).mp ((zcB_eq _).symm.trans c))
        replace H := H.1 c9
        refine zW_gh 255 [some (.ref 75), none, none, some (.int (Int32.ofNat x3)), some (.int (Int32.ofNat x4)), none, some (.int x6), some (.int (Int32.ofNat x7)), none, none] [.int x6, .ref 75] 2 (fun f => rfl) ?_
        refine zW_fg (L' := [some (.ref 75), none, none, some (.int (Int32.ofNat x3)), some (.int (Int32.ofNat x4)), none, none, none, none, none]) (zle_s _ (zle_s _ (zle_s _ (zle_s _ (zle_s _ (zle_s _ (zle_n _ (zle_n _ (zle_s _ (zle_s _ zle_nil)))))))))) ?_
        exact zW_cl rfl rfl rfl rfl rfl H
      · have c9 : bad = true := ((Bool.not_eq_false' _).mp ((zcB_eq _).symm.trans c))
        replace H := H.2 c9
        refine zW_gh 248 [some (.ref 75), none, none, some (.int (Int32.ofNat x3)), some (.int (Int32.ofNat x4)), none, some (.int x6), some (.int (Int32.ofNat x7)), none, none] [.int (3 : Int32), .ref 75] 2 (fun f => rfl) ?_
        refine zW_cl rfl rfl rfl rfl rfl (s142 ?_)
        change zW zm_207 251 [some (.ref 75), none, none, some (.int (Int32.ofNat x3)), some (.int (Int32.ofNat x4)), none, some (.int x6), some (.int (Int32.ofNat x7)), none, none] [.int (0 : Int32)] p _ Q
        exact zW_rh (some (.int (0 : Int32))) 1 (fun f => rfl) H
    · have c9 : bad = false := ((zcB_ne _).symm.trans c)
      replace H := H.2 c9
      refine zW_gh 172 [some (.ref 75), none, none, some (.int (Int32.ofNat x3)), some (.int (Int32.ofNat x4)), none, some (.int x6), some (.int (Int32.ofNat x7)), some (.int ((3272 : Int32) + ((5 : Int32) * (Int32.ofNat x7)))), none] [] 6 (fun f => rfl) ?_
      rw [show ((3272 : Int32) + ((5 : Int32) * (Int32.ofNat x7))) = Int32.ofNat (3272 + (5 * x7)) from (zN_a rfl (zN_m rfl rfl))]
      refine zW_gh 178 [some (.ref 75), none, none, some (.int (Int32.ofNat x3)), some (.int (Int32.ofNat x4)), none, some (.int x6), some (.int (Int32.ofNat x7)), some (.int (Int32.ofNat (3272 + (5 * x7)))), none] [.int (Int32.ofNat (3272 + (5 * x7))), .ref 76] 3 (fun f => rfl) ?_
      obtain ⟨h1, H⟩ := H
      refine zW_iald rfl (by decide) rfl (by decide) rfl h1 ?_
      refine zW_bh (zcmp .ge (m (3272 + (5 * x7))) (3 : Int32)) 233 183 [some (.ref 75), none, none, some (.int (Int32.ofNat x3)), some (.int (Int32.ofNat x4)), none, some (.int x6), some (.int (Int32.ofNat x7)), some (.int (Int32.ofNat (3272 + (5 * x7)))), none] [] 2 (fun f => rfl) (fun c => ?_) (fun c => ?_)
      · have c9 : (3 : Int32) ≤ (m (3272 + (5 * x7))) := (of_decide_eq_true c)
        replace H := H.1 c9
        refine zW_inc [some (.ref 75), none, none, some (.int (Int32.ofNat x3)), some (.int (Int32.ofNat x4)), none, some (.int x6), some (.int ((Int32.ofNat x7) + (1 : Int32))), some (.int (Int32.ofNat (3272 + (5 * x7)))), none] rfl rfl rfl ?_
        rw [show ((Int32.ofNat x7) + (1 : Int32)) = Int32.ofNat (x7 + 1) from (zN_a rfl rfl)]
        refine zW_gh 142 [some (.ref 75), none, none, some (.int (Int32.ofNat x3)), some (.int (Int32.ofNat x4)), none, some (.int x6), some (.int (Int32.ofNat (x7 + 1))), some (.int (Int32.ofNat (3272 + (5 * x7)))), none] [] 1 (fun f => rfl) ?_
        refine zW_fg (L' := [some (.ref 75), none, none, some (.int (Int32.ofNat x3)), some (.int (Int32.ofNat x4)), none, some (.int x6), some (.int (Int32.ofNat (x7 + 1))), none, none]) (zle_s _ (zle_s _ (zle_s _ (zle_s _ (zle_s _ (zle_s _ (zle_s _ (zle_s _ (zle_n _ (zle_s _ zle_nil)))))))))) ?_
        exact H
      · have c9 : ¬ (3 : Int32) ≤ (m (3272 + (5 * x7))) := (of_decide_eq_false c)
        replace H := H.2 c9
        refine zW_gh 193 [some (.ref 75), none, none, some (.int (Int32.ofNat x3)), some (.int (Int32.ofNat x4)), none, some (.int x6), some (.int (Int32.ofNat x7)), some (.int (Int32.ofNat (3272 + (5 * x7)))), none] [.int (Int32.ofNat (3272 + (5 * x7))), .ref 76, .int (4272 : Int32), .ref 75] 5 (fun f => rfl) ?_
        refine zW_iald rfl (by decide) rfl (by decide) rfl h1 ?_
        refine zW_gh 202 [some (.ref 75), none, none, some (.int (Int32.ofNat x3)), some (.int (Int32.ofNat x4)), none, some (.int x6), some (.int (Int32.ofNat x7)), some (.int (Int32.ofNat (3272 + (5 * x7)))), none] [.int ((Int32.ofNat (3272 + (5 * x7))) + (1 : Int32)), .ref 76, .int (m (3272 + (5 * x7))), .int (4272 : Int32), .ref 75] 5 (fun f => rfl) ?_
        obtain ⟨h3, H⟩ := H
        refine zW_iald rfl (by decide) rfl (by decide) (zN_a rfl rfl) h3 ?_
        refine zW_gh 211 [some (.ref 75), none, none, some (.int (Int32.ofNat x3)), some (.int (Int32.ofNat x4)), none, some (.int x6), some (.int (Int32.ofNat x7)), some (.int (Int32.ofNat (3272 + (5 * x7)))), none] [.int ((Int32.ofNat (3272 + (5 * x7))) + (2 : Int32)), .ref 76, .int (m ((3272 + (5 * x7)) + 1)), .int (m (3272 + (5 * x7))), .int (4272 : Int32), .ref 75] 5 (fun f => rfl) ?_
        obtain ⟨h4, H⟩ := H
        refine zW_iald rfl (by decide) rfl (by decide) (zN_a rfl rfl) h4 ?_
        refine zW_gh 220 [some (.ref 75), none, none, some (.int (Int32.ofNat x3)), some (.int (Int32.ofNat x4)), none, some (.int x6), some (.int (Int32.ofNat x7)), some (.int (Int32.ofNat (3272 + (5 * x7)))), none] [.int ((Int32.ofNat (3272 + (5 * x7))) + (3 : Int32)), .ref 76, .int (m ((3272 + (5 * x7)) + 2)), .int (m ((3272 + (5 * x7)) + 1)), .int (m (3272 + (5 * x7))), .int (4272 : Int32), .ref 75] 5 (fun f => rfl) ?_
        obtain ⟨h5, H⟩ := H
        refine zW_iald rfl (by decide) rfl (by decide) (zN_a rfl rfl) h5 ?_
        refine zW_gh 229 [some (.ref 75), none, none, some (.int (Int32.ofNat x3)), some (.int (Int32.ofNat x4)), none, some (.int x6), some (.int (Int32.ofNat x7)), some (.int (Int32.ofNat (3272 + (5 * x7)))), none] [.int ((Int32.ofNat (3272 + (5 * x7))) + (4 : Int32)), .ref 76, .int (m ((3272 + (5 * x7)) + 3)), .int (m ((3272 + (5 * x7)) + 2)), .int (m ((3272 + (5 * x7)) + 1)), .int (m (3272 + (5 * x7))), .int (4272 : Int32), .ref 75] 5 (fun f => rfl) ?_
        obtain ⟨h6, H⟩ := H
        refine zW_iald rfl (by decide) rfl (by decide) (zN_a rfl rfl) h6 ?_
        refine zW_fg (L' := [some (.ref 75), none, none, some (.int (Int32.ofNat x3)), some (.int (Int32.ofNat x4)), none, some (.int x6), some (.int (Int32.ofNat x7)), none, none]) (zle_s _ (zle_s _ (zle_s _ (zle_s _ (zle_s _ (zle_s _ (zle_s _ (zle_s _ (zle_n _ (zle_s _ zle_nil)))))))))) ?_
        exact zW_cl rfl rfl rfl rfl rfl H
set_option maxRecDepth 20000 in
theorem b207_258 {K : zKt} {code rf rs pr pn : Int32} {bad : Bool} {J : zJt} {m pa pb pc vf vs : Nat → Int32} {B : zBt} {w : Nat → Int64} {p : Nat × Nat} {Q : zR → zH → Prop} {x3 x4 : Nat} {rv : Bool} (H : ((rv = true → zT zm_210 [.ref 75] p (zh K (code, rf, rs, bad, pr, pn, J) (m, pa, pb, pc, vf, vs, B) w) (zK zm_207 267 [some (.ref 75), none, none, some (.int (Int32.ofNat x3)), some (.int (Int32.ofNat x4)), none, none, none, none, none] [] p Q)) ∧ (rv = false → Q (.inl (some (.int (0 : Int32)))) (zh K (code, rf, rs, bad, pr, pn, J) (m, pa, pb, pc, vf, vs, B) w)))) : zW zm_207 258 [some (.ref 75), none, none, some (.int (Int32.ofNat x3)), some (.int (Int32.ofNat x4)), none, none, none, none, none] [.int (zbi rv)] p (zh K (code, rf, rs, bad, pr, pn, J) (m, pa, pb, pc, vf, vs, B) w) Q := by
  refine zW_bh (zcmp .ne (zbi rv) (0 : Int32)) 263 261 [some (.ref 75), none, none, some (.int (Int32.ofNat x3)), some (.int (Int32.ofNat x4)), none, none, none, none, none] [] 1 (fun f => rfl) (fun c => ?_) (fun c => ?_)
  · have c9 : rv = true := ((zcB_ne _).symm.trans c)
    replace H := H.1 c9
    refine zW_gh 264 [some (.ref 75), none, none, some (.int (Int32.ofNat x3)), some (.int (Int32.ofNat x4)), none, none, none, none, none] [.ref 75] 1 (fun f => rfl) ?_
    exact zW_cl rfl rfl rfl rfl rfl H
  · have c9 : rv = false := ((zcB_ne _).symm.trans c)
    replace H := H.2 c9
    refine zW_gh 262 [some (.ref 75), none, none, some (.int (Int32.ofNat x3)), some (.int (Int32.ofNat x4)), none, none, none, none, none] [.int (0 : Int32)] 1 (fun f => rfl) ?_
    exact zW_rh (some (.int (0 : Int32))) 1 (fun f => rfl) H
set_option maxRecDepth 20000 in
theorem b207_233 {K : zKt} {code rf rs pr pn : Int32} {bad : Bool} {J : zJt} {m pa pb pc vf vs : Nat → Int32} {B : zBt} {w : Nat → Int64} {p : Nat × Nat} {Q : zR → zH → Prop} {x3 x4 x7 : Nat} {x6 : Int32} (H : zW zm_207 142 [some (.ref 75), none, none, some (.int (Int32.ofNat x3)), some (.int (Int32.ofNat x4)), none, some (.int x6), some (.int (Int32.ofNat (x7 + 1))), none, none] [] p (zh K (code, rf, rs, bad, pr, pn, J) (m, pa, pb, pc, vf, vs, B) w) Q) : zW zm_207 233 [some (.ref 75), none, none, some (.int (Int32.ofNat x3)), some (.int (Int32.ofNat x4)), none, some (.int x6), some (.int (Int32.ofNat x7)), none, none] [] p (zh K (code, rf, rs, bad, pr, pn, J) (m, pa, pb, pc, vf, vs, B) w) Q := by
  refine zW_inc [some (.ref 75), none, none, some (.int (Int32.ofNat x3)), some (.int (Int32.ofNat x4)), none, some (.int x6), some (.int ((Int32.ofNat x7) + (1 : Int32))), none, none] rfl rfl rfl ?_
  rw [show ((Int32.ofNat x7) + (1 : Int32)) = Int32.ofNat (x7 + 1) from (zN_a rfl rfl)]
  refine zW_gh 142 [some (.ref 75), none, none, some (.int (Int32.ofNat x3)), some (.int (Int32.ofNat x4)), none, some (.int x6), some (.int (Int32.ofNat (x7 + 1))), none, none] [] 1 (fun f => rfl) ?_
  exact H
set_option maxRecDepth 20000 in
theorem b207_267 {K : zKt} {code rf rs pr pn : Int32} {bad : Bool} {J : zJt} {m pa pb pc vf vs : Nat → Int32} {B : zBt} {w : Nat → Int64} {p : Nat × Nat} {Q : zR → zH → Prop} {x3 x4 : Nat} (H : ((bad = false → ((x4 + 0) < 5340 ∧ ((x4 + 2) < 5340 ∧ zT zm_145 [.ref 75, .int ((1068 : Int32) * (Int32.ofNat x3)), .int (m (x4 + 0)), .int (m (x4 + 2)), .int (1 : Int32)] p (zh K (code, rf, rs, bad, pr, pn, J) (m, pa, pb, pc, vf, vs, B) w) (zK zm_207 316 [some (.ref 75), none, none, some (.int (Int32.ofNat x3)), none, none, none, none, some (.int (m (x4 + 2))), none] [] p Q)))) ∧ (bad = true → Q (.inl (some (.int (0 : Int32)))) (zh K ((3 : Int32), rf, rs, bad, pr, pn, J) (m, pa, pb, pc, vf, vs, B) w)))) : zW zm_207 267 [some (.ref 75), none, none, some (.int (Int32.ofNat x3)), some (.int (Int32.ofNat x4)), none, none, none, none, none] [] p (zh K (code, rf, rs, bad, pr, pn, J) (m, pa, pb, pc, vf, vs, B) w) Q := by
  refine zW_bh (zcmp .eq (zbi bad) (0 : Int32)) 280 274 [some (.ref 75), none, none, some (.int (Int32.ofNat x3)), some (.int (Int32.ofNat x4)), none, none, none, none, none] [] 3 (fun f => rfl) (fun c => ?_) (fun c => ?_)
  · have c9 : bad = false := ((Bool.not_eq_true' _).mp ((zcB_eq _).symm.trans c))
    replace H := H.1 c9
    refine zW_gh 288 [some (.ref 75), none, none, some (.int (Int32.ofNat x3)), some (.int (Int32.ofNat x4)), none, none, none, none, none] [.int ((Int32.ofNat x4) + (0 : Int32)), .ref 76] 5 (fun f => rfl) ?_
    obtain ⟨h1, H⟩ := H
    refine zW_iald rfl (by decide) rfl (by decide) (zN_a rfl rfl) h1 ?_
    refine zW_gh 299 [some (.ref 75), none, none, some (.int (Int32.ofNat x3)), some (.int (Int32.ofNat x4)), none, none, some (.int (m (x4 + 0))), none, none] [.int ((Int32.ofNat x4) + (2 : Int32)), .ref 76] 6 (fun f => rfl) ?_
    obtain ⟨h2, H⟩ := H
    refine zW_iald rfl (by decide) rfl (by decide) (zN_a rfl rfl) h2 ?_
    refine zW_gh 313 [some (.ref 75), none, none, some (.int (Int32.ofNat x3)), some (.int (Int32.ofNat x4)), none, none, some (.int (m (x4 + 0))), some (.int (m (x4 + 2))), none] [.int (1 : Int32), .int (m (x4 + 2)), .int (m (x4 + 0)), .int ((1068 : Int32) * (Int32.ofNat x3)), .ref 75] 8 (fun f => rfl) ?_
    refine zW_fg (L' := [some (.ref 75), none, none, some (.int (Int32.ofNat x3)), none, none, none, none, some (.int (m (x4 + 2))), none]) (zle_s _ (zle_s _ (zle_s _ (zle_s _ (zle_n _ (zle_s _ (zle_s _ (zle_n _ (zle_s _ (zle_s _ zle_nil)))))))))) ?_
    exact zW_cl rfl rfl rfl rfl rfl H
  · have c9 : bad = true := ((Bool.not_eq_false' _).mp ((zcB_eq _).symm.trans c))
    replace H := H.2 c9
    refine zW_gh 276 [some (.ref 75), none, none, some (.int (Int32.ofNat x3)), some (.int (Int32.ofNat x4)), none, none, none, none, none] [.int (3 : Int32), .ref 75] 2 (fun f => rfl) ?_
    refine zW_cl rfl rfl rfl rfl rfl (s142 ?_)
    change zW zm_207 279 [some (.ref 75), none, none, some (.int (Int32.ofNat x3)), some (.int (Int32.ofNat x4)), none, none, none, none, none] [.int (0 : Int32)] p _ Q
    exact zW_rh (some (.int (0 : Int32))) 1 (fun f => rfl) H
set_option maxRecDepth 20000 in
theorem b207_316 {K : zKt} {code rf rs pr pn : Int32} {bad : Bool} {J : zJt} {m pa pb pc vf vs : Nat → Int32} {B : zBt} {w : Nat → Int64} {p : Nat × Nat} {Q : zR → zH → Prop} {x3 : Nat} {x8 : Int32} (H : zW zm_207 319 [some (.ref 75), none, none, some (.int (Int32.ofNat x3)), none, none, none, none, some (.int x8), some (.int (Int32.ofNat 0))] [] p (zh K (code, rf, rs, bad, pr, pn, J) (m, pa, pb, pc, vf, vs, B) w) Q) : zW zm_207 316 [some (.ref 75), none, none, some (.int (Int32.ofNat x3)), none, none, none, none, some (.int x8), none] [] p (zh K (code, rf, rs, bad, pr, pn, J) (m, pa, pb, pc, vf, vs, B) w) Q := by
  refine zW_gh 319 [some (.ref 75), none, none, some (.int (Int32.ofNat x3)), none, none, none, none, some (.int x8), some (.int (0 : Int32))] [] 2 (fun f => rfl) ?_
  exact H
set_option maxRecDepth 20000 in
theorem b207_319 {K : zKt} {code rf rs pr pn : Int32} {bad : Bool} {J : zJt} {m pa pb pc vf vs : Nat → Int32} {B : zBt} {w : Nat → Int64} {p : Nat × Nat} {Q : zR → zH → Prop} {x3 x9 : Nat} {x8 : Int32} (H : ((x8 ≤ (Int32.ofNat x9) → zT zm_146 [.ref 75, .int ((1068 : Int32) * (Int32.ofNat x3))] p (zh K (code, rf, rs, bad, pr, pn, J) (m, pa, pb, pc, vf, vs, B) w) (zK zm_207 370 [none, none, none, none, none, none, none, none, none, none] [] p Q)) ∧ (¬ x8 ≤ (Int32.ofNat x9) → (x9 < 4 ∧ (((((1068 * x3) + 4) + (8 * x9)) + (2 * 0)) + 1 < 5340 ∧ zW zm_207 319 [some (.ref 75), none, none, some (.int (Int32.ofNat x3)), none, none, none, none, some (.int x8), some (.int (Int32.ofNat (x9 + 1)))] [] p (zh K (code, rf, rs, bad, pr, pn, J) ((va_up (va_up m ((((1068 * x3) + 4) + (8 * x9)) + (2 * 0)) (vf x9)) (((((1068 * x3) + 4) + (8 * x9)) + (2 * 0)) + 1) (vs x9)), pa, pb, pc, vf, vs, B) w) Q))))) : zW zm_207 319 [some (.ref 75), none, none, some (.int (Int32.ofNat x3)), none, none, none, none, some (.int x8), some (.int (Int32.ofNat x9))] [] p (zh K (code, rf, rs, bad, pr, pn, J) (m, pa, pb, pc, vf, vs, B) w) Q := by
  refine zW_bh (zcmp .ge (Int32.ofNat x9) x8) 361 326 [some (.ref 75), none, none, some (.int (Int32.ofNat x3)), none, none, none, none, some (.int x8), some (.int (Int32.ofNat x9))] [] 3 (fun f => rfl) (fun c => ?_) (fun c => ?_)
  · have c9 : x8 ≤ (Int32.ofNat x9) := (of_decide_eq_true c)
    replace H := H.1 c9
    refine zW_gh 367 [some (.ref 75), none, none, some (.int (Int32.ofNat x3)), none, none, none, none, some (.int x8), some (.int (Int32.ofNat x9))] [.int ((1068 : Int32) * (Int32.ofNat x3)), .ref 75] 4 (fun f => rfl) ?_
    refine zW_fg (L' := [none, none, none, none, none, none, none, none, none, none]) (zle_n _ (zle_s _ (zle_s _ (zle_n _ (zle_s _ (zle_s _ (zle_s _ (zle_s _ (zle_n _ (zle_n _ zle_nil)))))))))) ?_
    exact zW_cl rfl rfl rfl rfl rfl H
  · have c9 : ¬ x8 ≤ (Int32.ofNat x9) := (of_decide_eq_false c)
    replace H := H.2 c9
    refine zW_gh 335 [some (.ref 75), none, none, some (.int (Int32.ofNat x3)), none, none, none, none, some (.int x8), some (.int (Int32.ofNat x9))] [.int (0 : Int32), .int (Int32.ofNat x9), .int ((1068 : Int32) * (Int32.ofNat x3)), .ref 75] 6 (fun f => rfl) ?_
    refine zW_cl rfl rfl rfl rfl rfl (s151 ?_)
    change zW zm_207 338 [some (.ref 75), none, none, some (.int (Int32.ofNat x3)), none, none, none, none, some (.int x8), some (.int (Int32.ofNat x9))] [.int (((((1068 : Int32) * (Int32.ofNat x3)) + (4 : Int32)) + ((8 : Int32) * (Int32.ofNat x9))) + ((2 : Int32) * (0 : Int32))), .ref 75] p _ Q
    refine zW_gh 344 [some (.ref 75), none, none, some (.int (Int32.ofNat x3)), none, none, none, none, some (.int x8), some (.int (Int32.ofNat x9))] [.int (Int32.ofNat x9), .ref 80, .int (((((1068 : Int32) * (Int32.ofNat x3)) + (4 : Int32)) + ((8 : Int32) * (Int32.ofNat x9))) + ((2 : Int32) * (0 : Int32))), .ref 75] 3 (fun f => rfl) ?_
    obtain ⟨h1, H⟩ := H
    refine zW_iald rfl (by decide) rfl (by decide) rfl h1 ?_
    refine zW_gh 351 [some (.ref 75), none, none, some (.int (Int32.ofNat x3)), none, none, none, none, some (.int x8), some (.int (Int32.ofNat x9))] [.int (Int32.ofNat x9), .ref 81, .int (vf x9), .int (((((1068 : Int32) * (Int32.ofNat x3)) + (4 : Int32)) + ((8 : Int32) * (Int32.ofNat x9))) + ((2 : Int32) * (0 : Int32))), .ref 75] 3 (fun f => rfl) ?_
    refine zW_iald rfl (by decide) rfl (by decide) rfl h1 ?_
    obtain ⟨h3, H⟩ := H
    refine zW_cl rfl rfl rfl rfl rfl ((s152 (zN_a (zN_a (zN_a (zN_m rfl rfl) rfl) (zN_m rfl rfl)) (zN_m rfl rfl))) h3 ?_)
    change zW zm_207 355 [some (.ref 75), none, none, some (.int (Int32.ofNat x3)), none, none, none, none, some (.int x8), some (.int (Int32.ofNat x9))] [] p _ Q
    refine zW_inc [some (.ref 75), none, none, some (.int (Int32.ofNat x3)), none, none, none, none, some (.int x8), some (.int ((Int32.ofNat x9) + (1 : Int32)))] rfl rfl rfl ?_
    rw [show ((Int32.ofNat x9) + (1 : Int32)) = Int32.ofNat (x9 + 1) from (zN_a rfl rfl)]
    refine zW_gh 319 [some (.ref 75), none, none, some (.int (Int32.ofNat x3)), none, none, none, none, some (.int x8), some (.int (Int32.ofNat (x9 + 1)))] [] 1 (fun f => rfl) ?_
    exact H
set_option maxRecDepth 20000 in
theorem b207_370 {K : zKt} {code rf rs pr pn : Int32} {bad : Bool} {J : zJt} {m pa pb pc vf vs : Nat → Int32} {B : zBt} {w : Nat → Int64} {p : Nat × Nat} {Q : zR → zH → Prop} (H : Q (.inl (some (.int (1 : Int32)))) (zh K (code, rf, rs, bad, pr, pn, J) (m, pa, pb, pc, vf, vs, B) w)) : zW zm_207 370 [none, none, none, none, none, none, none, none, none, none] [] p (zh K (code, rf, rs, bad, pr, pn, J) (m, pa, pb, pc, vf, vs, B) w) Q := by
  refine zW_gh 371 [none, none, none, none, none, none, none, none, none, none] [.int (1 : Int32)] 1 (fun f => rfl) ?_
  exact zW_rh (some (.int (1 : Int32))) 1 (fun f => rfl) H
set_option maxRecDepth 20000 in
theorem b211 {K : zKt} {code rf rs pr pn : Int32} {bad : Bool} {J : zJt} {m pa pb pc vf vs : Nat → Int32} {B : zBt} {w : Nat → Int64} {p : Nat × Nat} {Q : zR → zH → Prop} {a0 a1 : Int32} (H : (((zslot a0) = false → Q (.inl (some (.int (0 : Int32)))) (zh K ((1 : Int32), rf, rs, bad, pr, pn, J) (m, pa, pb, pc, vf, vs, B) w)) ∧ ((zslot a0) = true → ∀ k_a0, k_a0 < 3 → a0 = Int32.ofNat k_a0 → (((zslot a1) = true → ∀ k_a1, k_a1 < 3 → a1 = Int32.ofNat k_a1 → (1068 * k_a0 < 5340 ∧ (((decide (m (1068 * k_a0) = -1)) = false → zT zm_208 [.ref 75, .int (Int32.ofNat k_a0)] p (zh K ((0 : Int32), rf, rs, bad, pr, pn, J) (m, pa, pb, pc, vf, vs, B) w) (zK zm_211 44 [some (.ref 75), none, some (.int (Int32.ofNat k_a1)), none, none, none, none] [] p Q)) ∧ ((decide (m (1068 * k_a0) = -1)) = true → Q (.inl (some (.int (0 : Int32)))) (zh K ((2 : Int32), rf, rs, bad, pr, pn, J) (m, pa, pb, pc, vf, vs, B) w))))) ∧ ((zslot a1) = false → Q (.inl (some (.int (0 : Int32)))) (zh K ((1 : Int32), rf, rs, bad, pr, pn, J) (m, pa, pb, pc, vf, vs, B) w)))))) : zT zm_211 [.ref 75, .int a0, .int a1] p (zh K (code, rf, rs, bad, pr, pn, J) (m, pa, pb, pc, vf, vs, B) w) Q := by
  change zW zm_211 0 [some (.ref 75), some (.int a0), some (.int a1), none, none, none, none] [] p _ Q
  refine zW_gh 2 [some (.ref 75), some (.int a0), some (.int a1), none, none, none, none] [.int (0 : Int32), .ref 75] 2 (fun f => rfl) ?_
  refine zW_go (pc' := 5) (L' := [some (.ref 75), some (.int a0), some (.int a1), none, none, none, none]) (st' := []) (h' := (va_up (zh K (code, rf, rs, bad, pr, pn, J) (m, pa, pb, pc, vf, vs, B) w) 75 (.inr (7, zfl ((0 : Int32), rf, rs, bad, pr, pn, J))))) 1 (fun f => rfl) ?_
  refine zW_eq zu_75 ?_
  refine zW_gh 6 [some (.ref 75), some (.int a0), some (.int a1), none, none, none, none] [.int a0] 1 (fun f => rfl) ?_
  refine zW_cl rfl rfl rfl rfl rfl (s140 ?_)
  change zW zm_211 9 [some (.ref 75), some (.int a0), some (.int a1), none, none, none, none] [.int (zbi (zslot a0))] p _ Q
  refine zW_bh (zcmp .eq (zbi (zslot a0)) (0 : Int32)) 19 12 [some (.ref 75), some (.int a0), some (.int a1), none, none, none, none] [] 1 (fun f => rfl) (fun c => ?_) (fun c => ?_)
  · have c9 : (zslot a0) = false := ((Bool.not_eq_true' _).mp ((zcB_eq _).symm.trans c))
    replace H := H.1 c9
    refine zW_gh 21 [some (.ref 75), some (.int a0), some (.int a1), none, none, none, none] [.int (1 : Int32), .ref 75] 2 (fun f => rfl) ?_
    refine zW_cl rfl rfl rfl rfl rfl (s142 ?_)
    change zW zm_211 24 [some (.ref 75), some (.int a0), some (.int a1), none, none, none, none] [.int (0 : Int32)] p _ Q
    exact zW_rh (some (.int (0 : Int32))) 1 (fun f => rfl) H
  · have c9 : (zslot a0) = true := ((Bool.not_eq_false' _).mp ((zcB_eq _).symm.trans c))
    replace H := H.2 c9
    obtain ⟨k_a0, h_k_a0, e_k_a0⟩ := zslot_n c9
    replace H := H k_a0 h_k_a0 e_k_a0
    subst e_k_a0
    refine zW_gh 13 [some (.ref 75), some (.int (Int32.ofNat k_a0)), some (.int a1), none, none, none, none] [.int a1] 1 (fun f => rfl) ?_
    refine zW_cl rfl rfl rfl rfl rfl (s140 ?_)
    change zW zm_211 16 [some (.ref 75), some (.int (Int32.ofNat k_a0)), some (.int a1), none, none, none, none] [.int (zbi (zslot a1))] p _ Q
    refine zW_bh (zcmp .ne (zbi (zslot a1)) (0 : Int32)) 25 19 [some (.ref 75), some (.int (Int32.ofNat k_a0)), some (.int a1), none, none, none, none] [] 1 (fun f => rfl) (fun c => ?_) (fun c => ?_)
    · have c9 : (zslot a1) = true := ((zcB_ne _).symm.trans c)
      replace H := H.1 c9
      obtain ⟨k_a1, h_k_a1, e_k_a1⟩ := zslot_n c9
      replace H := H k_a1 h_k_a1 e_k_a1
      subst e_k_a1
      refine zW_gh 27 [some (.ref 75), some (.int (Int32.ofNat k_a0)), some (.int (Int32.ofNat k_a1)), none, none, none, none] [.int (Int32.ofNat k_a0), .ref 75] 2 (fun f => rfl) ?_
      obtain ⟨h1, H⟩ := H
      refine zW_cl rfl rfl rfl rfl rfl ((s144 rfl) h1 ?_)
      change zW zm_211 30 [some (.ref 75), some (.int (Int32.ofNat k_a0)), some (.int (Int32.ofNat k_a1)), none, none, none, none] [.int (zbi (decide (m (1068 * k_a0) = -1)))] p _ Q
      refine zW_bh (zcmp .eq (zbi (decide (m (1068 * k_a0) = -1))) (0 : Int32)) 39 33 [some (.ref 75), some (.int (Int32.ofNat k_a0)), some (.int (Int32.ofNat k_a1)), none, none, none, none] [] 1 (fun f => rfl) (fun c => ?_) (fun c => ?_)
      · have c9 : (decide (m (1068 * k_a0) = -1)) = false := ((Bool.not_eq_true' _).mp ((zcB_eq _).symm.trans c))
        replace H := H.1 c9
        refine zW_gh 41 [some (.ref 75), some (.int (Int32.ofNat k_a0)), some (.int (Int32.ofNat k_a1)), none, none, none, none] [.int (Int32.ofNat k_a0), .ref 75] 2 (fun f => rfl) ?_
        refine zW_fg (L' := [some (.ref 75), none, some (.int (Int32.ofNat k_a1)), none, none, none, none]) (zle_s _ (zle_n _ (zle_s _ (zle_s _ (zle_s _ (zle_s _ (zle_s _ zle_nil))))))) ?_
        exact zW_cl rfl rfl rfl rfl rfl H
      · have c9 : (decide (m (1068 * k_a0) = -1)) = true := ((Bool.not_eq_false' _).mp ((zcB_eq _).symm.trans c))
        replace H := H.2 c9
        refine zW_gh 35 [some (.ref 75), some (.int (Int32.ofNat k_a0)), some (.int (Int32.ofNat k_a1)), none, none, none, none] [.int (2 : Int32), .ref 75] 2 (fun f => rfl) ?_
        refine zW_cl rfl rfl rfl rfl rfl (s142 ?_)
        change zW zm_211 38 [some (.ref 75), some (.int (Int32.ofNat k_a0)), some (.int (Int32.ofNat k_a1)), none, none, none, none] [.int (0 : Int32)] p _ Q
        exact zW_rh (some (.int (0 : Int32))) 1 (fun f => rfl) H
    · have c9 : (zslot a1) = false := ((zcB_ne _).symm.trans c)
      replace H := H.2 c9
      refine zW_gh 21 [some (.ref 75), some (.int (Int32.ofNat k_a0)), some (.int a1), none, none, none, none] [.int (1 : Int32), .ref 75] 2 (fun f => rfl) ?_
      refine zW_cl rfl rfl rfl rfl rfl (s142 ?_)
      change zW zm_211 24 [some (.ref 75), some (.int (Int32.ofNat k_a0)), some (.int a1), none, none, none, none] [.int (0 : Int32)] p _ Q
      exact zW_rh (some (.int (0 : Int32))) 1 (fun f => rfl) H
set_option maxRecDepth 20000 in
theorem b211_44 {K : zKt} {code rf rs pr pn : Int32} {bad : Bool} {J : zJt} {m pa pb pc vf vs : Nat → Int32} {B : zBt} {w : Nat → Int64} {p : Nat × Nat} {Q : zR → zH → Prop} {x2 : Nat} {rv : Int32} (H : ((bad = false → ((¬ rv = (m 3206) → zT zm_145 [.ref 75, .int (4272 : Int32), .int (m 3204), .int (m 3206), .int ((m 3206) - rv)] p (zh K (code, rf, rs, bad, pr, pn, J) (m, pa, pb, pc, vf, vs, B) w) (zK zm_211 97 [some (.ref 75), none, some (.int (Int32.ofNat x2)), some (.int rv), some (.int (m 3206)), none, none] [] p Q)) ∧ (rv = (m 3206) → Q (.inl (some (.int (0 : Int32)))) (zh K (code, rf, rs, bad, pr, pn, J) (m, pa, pb, pc, vf, vs, B) w)))) ∧ (bad = true → Q (.inl (some (.int (0 : Int32)))) (zh K ((3 : Int32), rf, rs, bad, pr, pn, J) (m, pa, pb, pc, vf, vs, B) w)))) : zW zm_211 44 [some (.ref 75), none, some (.int (Int32.ofNat x2)), none, none, none, none] [.int rv] p (zh K (code, rf, rs, bad, pr, pn, J) (m, pa, pb, pc, vf, vs, B) w) Q := by
  refine zW_gh 52 [some (.ref 75), none, some (.int (Int32.ofNat x2)), some (.int rv), none, none, none] [.int (3206 : Int32), .ref 76] 4 (fun f => rfl) ?_
  refine zW_iald rfl (by decide) rfl (by decide) rfl (by decide) ?_
  refine zW_bh (zcmp .eq (zbi bad) (0 : Int32)) 68 62 [some (.ref 75), none, some (.int (Int32.ofNat x2)), some (.int rv), some (.int (m 3206)), none, none] [] 4 (fun f => rfl) (fun c => ?_) (fun c => ?_)
  · have c9 : bad = false := ((Bool.not_eq_true' _).mp ((zcB_eq _).symm.trans c))
    replace H := H.1 c9
    refine zW_bh (zcmp .ne rv (m 3206)) 76 74 [some (.ref 75), none, some (.int (Int32.ofNat x2)), some (.int rv), some (.int (m 3206)), none, none] [] 3 (fun f => rfl) (fun c => ?_) (fun c => ?_)
    · have c9 : ¬ rv = (m 3206) := (by simpa [zcmp] using c)
      replace H := H.1 c9
      refine zW_gh 87 [some (.ref 75), none, some (.int (Int32.ofNat x2)), some (.int rv), some (.int (m 3206)), none, none] [.int (3204 : Int32), .ref 76, .int (4272 : Int32), .ref 75] 5 (fun f => rfl) ?_
      refine zW_iald rfl (by decide) rfl (by decide) rfl (by decide) ?_
      refine zW_gh 94 [some (.ref 75), none, some (.int (Int32.ofNat x2)), some (.int rv), some (.int (m 3206)), none, none] [.int ((m 3206) - rv), .int (m 3206), .int (m 3204), .int (4272 : Int32), .ref 75] 4 (fun f => rfl) ?_
      exact zW_cl rfl rfl rfl rfl rfl H
    · have c9 : rv = (m 3206) := (by simpa [zcmp] using c)
      replace H := H.2 c9
      refine zW_gh 75 [some (.ref 75), none, some (.int (Int32.ofNat x2)), some (.int rv), some (.int (m 3206)), none, none] [.int (0 : Int32)] 1 (fun f => rfl) ?_
      exact zW_rh (some (.int (0 : Int32))) 1 (fun f => rfl) H
  · have c9 : bad = true := ((Bool.not_eq_false' _).mp ((zcB_eq _).symm.trans c))
    replace H := H.2 c9
    refine zW_gh 64 [some (.ref 75), none, some (.int (Int32.ofNat x2)), some (.int rv), some (.int (m 3206)), none, none] [.int (3 : Int32), .ref 75] 2 (fun f => rfl) ?_
    refine zW_cl rfl rfl rfl rfl rfl (s142 ?_)
    change zW zm_211 67 [some (.ref 75), none, some (.int (Int32.ofNat x2)), some (.int rv), some (.int (m 3206)), none, none] [.int (0 : Int32)] p _ Q
    exact zW_rh (some (.int (0 : Int32))) 1 (fun f => rfl) H
set_option maxRecDepth 20000 in
theorem b211_97 {K : zKt} {code rf rs pr pn : Int32} {bad : Bool} {J : zJt} {m pa pb pc vf vs : Nat → Int32} {B : zBt} {w : Nat → Int64} {p : Nat × Nat} {Q : zR → zH → Prop} {x2 : Nat} {x3 x4 : Int32} (H : zW zm_211 100 [some (.ref 75), none, some (.int (Int32.ofNat x2)), some (.int x3), some (.int x4), some (.int x3), none] [] p (zh K (code, rf, rs, bad, pr, pn, J) (m, pa, pb, pc, vf, vs, B) w) Q) : zW zm_211 97 [some (.ref 75), none, some (.int (Int32.ofNat x2)), some (.int x3), some (.int x4), none, none] [] p (zh K (code, rf, rs, bad, pr, pn, J) (m, pa, pb, pc, vf, vs, B) w) Q := by
  refine zW_gh 100 [some (.ref 75), none, some (.int (Int32.ofNat x2)), some (.int x3), some (.int x4), some (.int x3), none] [] 2 (fun f => rfl) ?_
  exact H
set_option maxRecDepth 20000 in
theorem b211_100 {K : zKt} {code rf rs pr pn : Int32} {bad : Bool} {J : zJt} {m pa pb pc vf vs : Nat → Int32} {B : zBt} {w : Nat → Int64} {p : Nat × Nat} {Q : zR → zH → Prop} {x2 : Nat} {x3 x4 x5 : Int32} (H : ((x4 ≤ x5 → ((bad = false → zT zm_146 [.ref 75, .int (4272 : Int32)] p (zh K (code, rf, rs, bad, pr, pn, J) (m, pa, pb, pc, vf, vs, B) w) (zK zm_211 225 [some (.ref 75), none, some (.int (Int32.ofNat x2)), some (.int x3), some (.int x4), none, none] [] p Q)) ∧ (bad = true → Q (.inl (some (.int (0 : Int32)))) (zh K ((3 : Int32), rf, rs, bad, pr, pn, J) (m, pa, pb, pc, vf, vs, B) w)))) ∧ (¬ x4 ≤ x5 → zW zm_211 110 [some (.ref 75), none, some (.int (Int32.ofNat x2)), some (.int x3), some (.int x4), some (.int x5), some (.int (Int32.ofNat 0))] [] p (zh K (code, rf, rs, bad, pr, pn, J) (m, pa, pb, pc, vf, vs, B) w) Q))) : zW zm_211 100 [some (.ref 75), none, some (.int (Int32.ofNat x2)), some (.int x3), some (.int x4), some (.int x5), none] [] p (zh K (code, rf, rs, bad, pr, pn, J) (m, pa, pb, pc, vf, vs, B) w) Q := by
  refine zW_bh (zcmp .ge x5 x4) 205 107 [some (.ref 75), none, some (.int (Int32.ofNat x2)), some (.int x3), some (.int x4), some (.int x5), none] [] 3 (fun f => rfl) (fun c => ?_) (fun c => ?_)
  · have c9 : x4 ≤ x5 := (of_decide_eq_true c)
    replace H := H.1 c9
    refine zW_bh (zcmp .eq (zbi bad) (0 : Int32)) 218 212 [some (.ref 75), none, some (.int (Int32.ofNat x2)), some (.int x3), some (.int x4), some (.int x5), none] [] 3 (fun f => rfl) (fun c => ?_) (fun c => ?_)
    · have c9 : bad = false := ((Bool.not_eq_true' _).mp ((zcB_eq _).symm.trans c))
      replace H := H.1 c9
      refine zW_gh 222 [some (.ref 75), none, some (.int (Int32.ofNat x2)), some (.int x3), some (.int x4), some (.int x5), none] [.int (4272 : Int32), .ref 75] 2 (fun f => rfl) ?_
      refine zW_fg (L' := [some (.ref 75), none, some (.int (Int32.ofNat x2)), some (.int x3), some (.int x4), none, none]) (zle_s _ (zle_s _ (zle_s _ (zle_s _ (zle_s _ (zle_n _ (zle_s _ zle_nil))))))) ?_
      exact zW_cl rfl rfl rfl rfl rfl H
    · have c9 : bad = true := ((Bool.not_eq_false' _).mp ((zcB_eq _).symm.trans c))
      replace H := H.2 c9
      refine zW_gh 214 [some (.ref 75), none, some (.int (Int32.ofNat x2)), some (.int x3), some (.int x4), some (.int x5), none] [.int (3 : Int32), .ref 75] 2 (fun f => rfl) ?_
      refine zW_cl rfl rfl rfl rfl rfl (s142 ?_)
      change zW zm_211 217 [some (.ref 75), none, some (.int (Int32.ofNat x2)), some (.int x3), some (.int x4), some (.int x5), none] [.int (0 : Int32)] p _ Q
      exact zW_rh (some (.int (0 : Int32))) 1 (fun f => rfl) H
  · have c9 : ¬ x4 ≤ x5 := (of_decide_eq_false c)
    replace H := H.2 c9
    refine zW_gh 110 [some (.ref 75), none, some (.int (Int32.ofNat x2)), some (.int x3), some (.int x4), some (.int x5), some (.int (0 : Int32))] [] 2 (fun f => rfl) ?_
    exact H
set_option maxRecDepth 20000 in
theorem b211_225 {K : zKt} {code rf rs pr pn : Int32} {bad : Bool} {J : zJt} {m pa pb pc vf vs : Nat → Int32} {B : zBt} {w : Nat → Int64} {p : Nat × Nat} {Q : zR → zH → Prop} {x2 : Nat} {x3 x4 : Int32} (H : zT zm_154 [.ref 75, .int (4272 : Int32), .int ((1068 : Int32) * (Int32.ofNat x2))] p (zh K (code, rf, rs, bad, pr, pn, J) (m, pa, pb, pc, vf, vs, B) w) (zK zm_211 237 [none, none, none, some (.int x3), some (.int x4), none, none] [] p Q)) : zW zm_211 225 [some (.ref 75), none, some (.int (Int32.ofNat x2)), some (.int x3), some (.int x4), none, none] [] p (zh K (code, rf, rs, bad, pr, pn, J) (m, pa, pb, pc, vf, vs, B) w) Q := by
  refine zW_gh 234 [some (.ref 75), none, some (.int (Int32.ofNat x2)), some (.int x3), some (.int x4), none, none] [.int ((1068 : Int32) * (Int32.ofNat x2)), .int (4272 : Int32), .ref 75] 5 (fun f => rfl) ?_
  refine zW_fg (L' := [none, none, none, some (.int x3), some (.int x4), none, none]) (zle_n _ (zle_s _ (zle_n _ (zle_s _ (zle_s _ (zle_s _ (zle_s _ zle_nil))))))) ?_
  exact zW_cl rfl rfl rfl rfl rfl H
set_option maxRecDepth 20000 in
theorem b211_110 {K : zKt} {code rf rs pr pn : Int32} {bad : Bool} {J : zJt} {m pa pb pc vf vs : Nat → Int32} {B : zBt} {w : Nat → Int64} {p : Nat × Nat} {Q : zR → zH → Prop} {x2 x6 : Nat} {x3 x4 x5 : Int32} (H : (x6 < 2147483648 ∧ ((4 ≤ x6 → zT zm_210 [.ref 75] p (zh K (code, rf, rs, bad, pr, pn, J) (m, pa, pb, pc, vf, vs, B) w) (zK zm_211 153 [some (.ref 75), none, some (.int (Int32.ofNat x2)), some (.int x3), some (.int x4), some (.int x5), none] [] p Q)) ∧ (x6 < 4 → ((¬ (Int32.ofNat x6) = x5 → (x6 < 4 ∧ zW zm_211 110 [some (.ref 75), none, some (.int (Int32.ofNat x2)), some (.int x3), some (.int x4), some (.int x5), some (.int (Int32.ofNat (x6 + 1)))] [] p (zh K (code, rf, rs, bad, pr, pn, J) (m, pa, pb, pc, (va_up vf x6 (0 : Int32)), (va_up vs x6 (0 : Int32)), B) w) Q)) ∧ ((Int32.ofNat x6) = x5 → (x6 < 4 ∧ zW zm_211 110 [some (.ref 75), none, some (.int (Int32.ofNat x2)), some (.int x3), some (.int x4), some (.int x5), some (.int (Int32.ofNat (x6 + 1)))] [] p (zh K (code, rf, rs, bad, pr, pn, J) (m, pa, pb, pc, (va_up vf x6 (1 : Int32)), (va_up vs x6 (0 : Int32)), B) w) Q))))))) : zW zm_211 110 [some (.ref 75), none, some (.int (Int32.ofNat x2)), some (.int x3), some (.int x4), some (.int x5), some (.int (Int32.ofNat x6))] [] p (zh K (code, rf, rs, bad, pr, pn, J) (m, pa, pb, pc, vf, vs, B) w) Q := by
  obtain ⟨h1, H⟩ := H
  refine zW_bh (zcmp .ge (Int32.ofNat x6) (4 : Int32)) 149 116 [some (.ref 75), none, some (.int (Int32.ofNat x2)), some (.int x3), some (.int x4), some (.int x5), some (.int (Int32.ofNat x6))] [] 3 (fun f => rfl) (fun c => ?_) (fun c => ?_)
  · have c9 : 4 ≤ x6 := (of_decide_eq_true ((zcN_ge (a := x6) (b := 4) rfl rfl h1 (by decide)).symm.trans c))
    replace H := H.1 c9
    refine zW_gh 150 [some (.ref 75), none, some (.int (Int32.ofNat x2)), some (.int x3), some (.int x4), some (.int x5), some (.int (Int32.ofNat x6))] [.ref 75] 1 (fun f => rfl) ?_
    refine zW_fg (L' := [some (.ref 75), none, some (.int (Int32.ofNat x2)), some (.int x3), some (.int x4), some (.int x5), none]) (zle_s _ (zle_s _ (zle_s _ (zle_s _ (zle_s _ (zle_s _ (zle_n _ zle_nil))))))) ?_
    exact zW_cl rfl rfl rfl rfl rfl H
  · have c9 : x6 < 4 := (Nat.lt_of_not_le (of_decide_eq_false ((zcN_ge (a := x6) (b := 4) rfl rfl h1 (by decide)).symm.trans c)))
    replace H := H.2 c9
    refine zW_bh (zcmp .ne (Int32.ofNat x6) x5) 133 129 [some (.ref 75), none, some (.int (Int32.ofNat x2)), some (.int x3), some (.int x4), some (.int x5), some (.int (Int32.ofNat x6))] [.int (Int32.ofNat x6), .ref 80] 6 (fun f => rfl) (fun c => ?_) (fun c => ?_)
    · have c9 : ¬ (Int32.ofNat x6) = x5 := (by simpa [zcmp] using c)
      replace H := H.1 c9
      refine zW_gh 134 [some (.ref 75), none, some (.int (Int32.ofNat x2)), some (.int x3), some (.int x4), some (.int x5), some (.int (Int32.ofNat x6))] [.int (0 : Int32), .int (Int32.ofNat x6), .ref 80] 1 (fun f => rfl) ?_
      obtain ⟨h2, H⟩ := H
      refine zW_iast rfl (by decide) rfl (by decide) zu_80 rfl h2 ?_
      refine zW_gh 142 [some (.ref 75), none, some (.int (Int32.ofNat x2)), some (.int x3), some (.int x4), some (.int x5), some (.int (Int32.ofNat x6))] [.int (0 : Int32), .int (Int32.ofNat x6), .ref 81] 4 (fun f => rfl) ?_
      refine zW_iast rfl (by decide) rfl (by decide) zu_81 rfl h2 ?_
      refine zW_inc [some (.ref 75), none, some (.int (Int32.ofNat x2)), some (.int x3), some (.int x4), some (.int x5), some (.int ((Int32.ofNat x6) + (1 : Int32)))] rfl rfl rfl ?_
      rw [show ((Int32.ofNat x6) + (1 : Int32)) = Int32.ofNat (x6 + 1) from (zN_a rfl rfl)]
      refine zW_gh 110 [some (.ref 75), none, some (.int (Int32.ofNat x2)), some (.int x3), some (.int x4), some (.int x5), some (.int (Int32.ofNat (x6 + 1)))] [] 1 (fun f => rfl) ?_
      exact H
    · have c9 : (Int32.ofNat x6) = x5 := (by simpa [zcmp] using c)
      replace H := H.2 c9
      refine zW_gh 134 [some (.ref 75), none, some (.int (Int32.ofNat x2)), some (.int x3), some (.int x4), some (.int x5), some (.int (Int32.ofNat x6))] [.int (1 : Int32), .int (Int32.ofNat x6), .ref 80] 2 (fun f => rfl) ?_
      obtain ⟨h4, H⟩ := H
      refine zW_iast rfl (by decide) rfl (by decide) zu_80 rfl h4 ?_
      refine zW_gh 142 [some (.ref 75), none, some (.int (Int32.ofNat x2)), some (.int x3), some (.int x4), some (.int x5), some (.int (Int32.ofNat x6))] [.int (0 : Int32), .int (Int32.ofNat x6), .ref 81] 4 (fun f => rfl) ?_
      refine zW_iast rfl (by decide) rfl (by decide) zu_81 rfl h4 ?_
      refine zW_inc [some (.ref 75), none, some (.int (Int32.ofNat x2)), some (.int x3), some (.int x4), some (.int x5), some (.int ((Int32.ofNat x6) + (1 : Int32)))] rfl rfl rfl ?_
      rw [show ((Int32.ofNat x6) + (1 : Int32)) = Int32.ofNat (x6 + 1) from (zN_a rfl rfl)]
      refine zW_gh 110 [some (.ref 75), none, some (.int (Int32.ofNat x2)), some (.int x3), some (.int x4), some (.int x5), some (.int (Int32.ofNat (x6 + 1)))] [] 1 (fun f => rfl) ?_
      exact H
set_option maxRecDepth 20000 in
theorem b211_237 {K : zKt} {code rf rs pr pn : Int32} {bad : Bool} {J : zJt} {m pa pb pc vf vs : Nat → Int32} {B : zBt} {w : Nat → Int64} {p : Nat × Nat} {Q : zR → zH → Prop} {x3 x4 : Int32} (H : Q (.inl (some (.int (x4 - x3)))) (zh K (code, rf, rs, bad, pr, pn, J) (m, pa, pb, pc, vf, vs, B) w)) : zW zm_211 237 [none, none, none, some (.int x3), some (.int x4), none, none] [] p (zh K (code, rf, rs, bad, pr, pn, J) (m, pa, pb, pc, vf, vs, B) w) Q := by
  refine zW_gh 241 [none, none, none, some (.int x3), some (.int x4), none, none] [.int (x4 - x3)] 3 (fun f => rfl) ?_
  exact zW_rh (some (.int (x4 - x3))) 1 (fun f => rfl) H
set_option maxRecDepth 20000 in
theorem b211_153 {K : zKt} {code rf rs pr pn : Int32} {bad : Bool} {J : zJt} {m pa pb pc vf vs : Nat → Int32} {B : zBt} {w : Nat → Int64} {p : Nat × Nat} {Q : zR → zH → Prop} {x2 : Nat} {x3 x4 x5 : Int32} (H : zW zm_211 156 [some (.ref 75), none, some (.int (Int32.ofNat x2)), some (.int x3), some (.int x4), some (.int x5), some (.int (Int32.ofNat 0))] [] p (zh K (code, rf, rs, bad, pr, pn, J) (m, pa, pb, pc, vf, vs, B) w) Q) : zW zm_211 153 [some (.ref 75), none, some (.int (Int32.ofNat x2)), some (.int x3), some (.int x4), some (.int x5), none] [] p (zh K (code, rf, rs, bad, pr, pn, J) (m, pa, pb, pc, vf, vs, B) w) Q := by
  refine zW_gh 156 [some (.ref 75), none, some (.int (Int32.ofNat x2)), some (.int x3), some (.int x4), some (.int x5), some (.int (0 : Int32))] [] 2 (fun f => rfl) ?_
  exact H
set_option maxRecDepth 20000 in
theorem b211_156 {K : zKt} {code rf rs pr pn : Int32} {bad : Bool} {J : zJt} {m pa pb pc vf vs : Nat → Int32} {B : zBt} {w : Nat → Int64} {p : Nat × Nat} {Q : zR → zH → Prop} {x2 x6 : Nat} {x3 x4 x5 : Int32} (H : ((x4 ≤ (Int32.ofNat x6) → zW zm_211 100 [some (.ref 75), none, some (.int (Int32.ofNat x2)), some (.int x3), some (.int x4), some (.int (x5 + (1 : Int32))), none] [] p (zh K (code, rf, rs, bad, pr, pn, J) (m, pa, pb, pc, vf, vs, B) w) Q) ∧ (¬ x4 ≤ (Int32.ofNat x6) → (x6 < 4 ∧ (∃ j3, (((4276 : Int32) + ((8 : Int32) * (Int32.ofNat x6))) + ((2 : Int32) * (x5 - x3))) = Int32.ofNat j3 ∧ (j3 + 1 < 5340 ∧ zW zm_211 156 [some (.ref 75), none, some (.int (Int32.ofNat x2)), some (.int x3), some (.int x4), some (.int x5), some (.int (Int32.ofNat (x6 + 1)))] [] p (zh K (code, rf, rs, bad, pr, pn, J) ((va_up (va_up m j3 (vf x6)) (j3 + 1) (vs x6)), pa, pb, pc, vf, vs, B) w) Q)))))) : zW zm_211 156 [some (.ref 75), none, some (.int (Int32.ofNat x2)), some (.int x3), some (.int x4), some (.int x5), some (.int (Int32.ofNat x6))] [] p (zh K (code, rf, rs, bad, pr, pn, J) (m, pa, pb, pc, vf, vs, B) w) Q := by
  refine zW_bh (zcmp .ge (Int32.ofNat x6) x4) 199 163 [some (.ref 75), none, some (.int (Int32.ofNat x2)), some (.int x3), some (.int x4), some (.int x5), some (.int (Int32.ofNat x6))] [] 3 (fun f => rfl) (fun c => ?_) (fun c => ?_)
  · have c9 : x4 ≤ (Int32.ofNat x6) := (of_decide_eq_true c)
    replace H := H.1 c9
    refine zW_inc [some (.ref 75), none, some (.int (Int32.ofNat x2)), some (.int x3), some (.int x4), some (.int (x5 + (1 : Int32))), some (.int (Int32.ofNat x6))] rfl rfl rfl ?_
    refine zW_gh 100 [some (.ref 75), none, some (.int (Int32.ofNat x2)), some (.int x3), some (.int x4), some (.int (x5 + (1 : Int32))), some (.int (Int32.ofNat x6))] [] 1 (fun f => rfl) ?_
    refine zW_fg (L' := [some (.ref 75), none, some (.int (Int32.ofNat x2)), some (.int x3), some (.int x4), some (.int (x5 + (1 : Int32))), none]) (zle_s _ (zle_s _ (zle_s _ (zle_s _ (zle_s _ (zle_s _ (zle_n _ zle_nil))))))) ?_
    exact H
  · have c9 : ¬ x4 ≤ (Int32.ofNat x6) := (of_decide_eq_false c)
    replace H := H.2 c9
    refine zW_gh 173 [some (.ref 75), none, some (.int (Int32.ofNat x2)), some (.int x3), some (.int x4), some (.int x5), some (.int (Int32.ofNat x6))] [.int (x5 - x3), .int (Int32.ofNat x6), .int (4272 : Int32), .ref 75] 6 (fun f => rfl) ?_
    refine zW_cl rfl rfl rfl rfl rfl (s151 ?_)
    change zW zm_211 176 [some (.ref 75), none, some (.int (Int32.ofNat x2)), some (.int x3), some (.int x4), some (.int x5), some (.int (Int32.ofNat x6))] [.int (((4276 : Int32) + ((8 : Int32) * (Int32.ofNat x6))) + ((2 : Int32) * (x5 - x3))), .ref 75] p _ Q
    refine zW_gh 182 [some (.ref 75), none, some (.int (Int32.ofNat x2)), some (.int x3), some (.int x4), some (.int x5), some (.int (Int32.ofNat x6))] [.int (Int32.ofNat x6), .ref 80, .int (((4276 : Int32) + ((8 : Int32) * (Int32.ofNat x6))) + ((2 : Int32) * (x5 - x3))), .ref 75] 3 (fun f => rfl) ?_
    obtain ⟨h1, H⟩ := H
    refine zW_iald rfl (by decide) rfl (by decide) rfl h1 ?_
    refine zW_gh 189 [some (.ref 75), none, some (.int (Int32.ofNat x2)), some (.int x3), some (.int x4), some (.int x5), some (.int (Int32.ofNat x6))] [.int (Int32.ofNat x6), .ref 81, .int (vf x6), .int (((4276 : Int32) + ((8 : Int32) * (Int32.ofNat x6))) + ((2 : Int32) * (x5 - x3))), .ref 75] 3 (fun f => rfl) ?_
    refine zW_iald rfl (by decide) rfl (by decide) rfl h1 ?_
    obtain ⟨j3, e_j3, H⟩ := H
    obtain ⟨h4, H⟩ := H
    refine zW_cl rfl rfl rfl rfl rfl ((s152 e_j3) h4 ?_)
    change zW zm_211 193 [some (.ref 75), none, some (.int (Int32.ofNat x2)), some (.int x3), some (.int x4), some (.int x5), some (.int (Int32.ofNat x6))] [] p _ Q
    refine zW_inc [some (.ref 75), none, some (.int (Int32.ofNat x2)), some (.int x3), some (.int x4), some (.int x5), some (.int ((Int32.ofNat x6) + (1 : Int32)))] rfl rfl rfl ?_
    rw [show ((Int32.ofNat x6) + (1 : Int32)) = Int32.ofNat (x6 + 1) from (zN_a rfl rfl)]
    refine zW_gh 156 [some (.ref 75), none, some (.int (Int32.ofNat x2)), some (.int x3), some (.int x4), some (.int x5), some (.int (Int32.ofNat (x6 + 1)))] [] 1 (fun f => rfl) ?_
    exact H
theorem b213 {K : zKt} {code rf rs pr pn : Int32} {bad : Bool} {J : zJt} {m pa pb pc vf vs : Nat → Int32} {B : zBt} {w : Nat → Int64} {p : Nat × Nat} {Q : zR → zH → Prop} {a0 : Nat} (H : (((1068 * a0) + 1) < 5340 ∧ (((1068 * a0) + 2) < 5340 ∧ (((m ((1068 * a0) + 2)) ≤ (m ((1068 * a0) + 1)) → Q (.inl (some (.int (m ((1068 * a0) + 2))))) (zh K (code, rf, rs, bad, pr, pn, J) (m, pa, pb, pc, vf, vs, B) w)) ∧ (¬ (m ((1068 * a0) + 2)) ≤ (m ((1068 * a0) + 1)) → Q (.inl (some (.int (m ((1068 * a0) + 1))))) (zh K (code, rf, rs, bad, pr, pn, J) (m, pa, pb, pc, vf, vs, B) w)))))) : zT zm_213 [.ref 75, .int (Int32.ofNat a0)] p (zh K (code, rf, rs, bad, pr, pn, J) (m, pa, pb, pc, vf, vs, B) w) Q := by
  change zW zm_213 0 [some (.ref 75), some (.int (Int32.ofNat a0)), none, none] [] p _ Q
  refine zW_gh 11 [some (.ref 75), some (.int (Int32.ofNat a0)), none, none] [.int (((1068 : Int32) * (Int32.ofNat a0)) + (1 : Int32)), .ref 76] 7 (fun f => rfl) ?_
  obtain ⟨h1, H⟩ := H
  refine zW_iald rfl (by decide) rfl (by decide) (zN_a (zN_m rfl rfl) rfl) h1 ?_
  refine zW_gh 24 [some (.ref 75), some (.int (Int32.ofNat a0)), some (.int (m ((1068 * a0) + 1))), none] [.int (((1068 : Int32) * (Int32.ofNat a0)) + (2 : Int32)), .ref 76] 8 (fun f => rfl) ?_
  obtain ⟨h2, H⟩ := H
  refine zW_iald rfl (by decide) rfl (by decide) (zN_a (zN_m rfl rfl) rfl) h2 ?_
  refine zW_bh (zcmp .ge (m ((1068 * a0) + 1)) (m ((1068 * a0) + 2))) 35 31 [some (.ref 75), some (.int (Int32.ofNat a0)), some (.int (m ((1068 * a0) + 1))), some (.int (m ((1068 * a0) + 2)))] [] 4 (fun f => rfl) (fun c => ?_) (fun c => ?_)
  · have c9 : (m ((1068 * a0) + 2)) ≤ (m ((1068 * a0) + 1)) := (of_decide_eq_true c)
    replace H := H.1 c9
    refine zW_gh 36 [some (.ref 75), some (.int (Int32.ofNat a0)), some (.int (m ((1068 * a0) + 1))), some (.int (m ((1068 * a0) + 2)))] [.int (m ((1068 * a0) + 2))] 1 (fun f => rfl) ?_
    exact zW_rh (some (.int (m ((1068 * a0) + 2)))) 1 (fun f => rfl) H
  · have c9 : ¬ (m ((1068 * a0) + 2)) ≤ (m ((1068 * a0) + 1)) := (of_decide_eq_false c)
    replace H := H.2 c9
    refine zW_gh 36 [some (.ref 75), some (.int (Int32.ofNat a0)), some (.int (m ((1068 * a0) + 1))), some (.int (m ((1068 * a0) + 2)))] [.int (m ((1068 * a0) + 1))] 2 (fun f => rfl) ?_
    exact zW_rh (some (.int (m ((1068 * a0) + 1)))) 1 (fun f => rfl) H
theorem b212 {K : zKt} {code rf rs pr pn : Int32} {bad : Bool} {J : zJt} {m pa pb pc vf vs : Nat → Int32} {B : zBt} {w : Nat → Int64} {p : Nat × Nat} {Q : zR → zH → Prop} {a0 a1 a2 : Int32} (H : zT zm_169 [.ref 75, .int a0] p (zh K (code, rf, rs, bad, pr, pn, J) (m, pa, pb, pc, vf, vs, B) w) (zK zm_212 5 [some (.ref 75), some (.int a0), some (.int a1), some (.int a2), none, none] [] p Q)) : zT zm_212 [.ref 75, .int a0, .int a1, .int a2] p (zh K (code, rf, rs, bad, pr, pn, J) (m, pa, pb, pc, vf, vs, B) w) Q := by
  change zW zm_212 0 [some (.ref 75), some (.int a0), some (.int a1), some (.int a2), none, none] [] p _ Q
  refine zW_gh 2 [some (.ref 75), some (.int a0), some (.int a1), some (.int a2), none, none] [.int a0, .ref 75] 2 (fun f => rfl) ?_
  exact zW_cl rfl rfl rfl rfl rfl H
theorem b212_5 {K : zKt} {code rf rs pr pn : Int32} {bad : Bool} {J : zJt} {m pa pb pc vf vs : Nat → Int32} {B : zBt} {w : Nat → Int64} {p : Nat × Nat} {Q : zR → zH → Prop} {x1 x2 x3 rv : Int32} (H : ((rv ≤ (0 : Int32) → zT zm_213 [.ref 75, .int x1] p (zh K (code, rf, rs, bad, pr, pn, J) (m, pa, pb, pc, vf, vs, B) w) (zK zm_212 27 [some (.ref 75), some (.int x1), some (.int x2), some (.int x3), none, none] [.long (0 : Int64), .long ((x2).toInt64)] p Q)) ∧ (¬ rv ≤ (0 : Int32) → Q (.inl (some (.int (0 : Int32)))) (zh K (rv, rf, rs, bad, pr, pn, J) (m, pa, pb, pc, vf, vs, B) w)))) : zW zm_212 5 [some (.ref 75), some (.int x1), some (.int x2), some (.int x3), none, none] [.int rv] p (zh K (code, rf, rs, bad, pr, pn, J) (m, pa, pb, pc, vf, vs, B) w) Q := by
  refine zW_bh (zcmp .le rv (0 : Int32)) 19 12 [some (.ref 75), some (.int x1), some (.int x2), some (.int x3), some (.int rv), none] [] 3 (fun f => rfl) (fun c => ?_) (fun c => ?_)
  · have c9 : rv ≤ (0 : Int32) := (of_decide_eq_true c)
    replace H := H.1 c9
    refine zW_gh 24 [some (.ref 75), some (.int x1), some (.int x2), some (.int x3), some (.int rv), none] [.int x1, .ref 75, .long (0 : Int64), .long ((x2).toInt64)] 5 (fun f => rfl) ?_
    refine zW_fg (L' := [some (.ref 75), some (.int x1), some (.int x2), some (.int x3), none, none]) (zle_s _ (zle_s _ (zle_s _ (zle_s _ (zle_n _ (zle_s _ zle_nil)))))) ?_
    exact zW_cl rfl rfl rfl rfl rfl H
  · have c9 : ¬ rv ≤ (0 : Int32) := (of_decide_eq_false c)
    replace H := H.2 c9
    refine zW_gh 15 [some (.ref 75), some (.int x1), some (.int x2), some (.int x3), some (.int rv), none] [.int rv, .ref 75] 2 (fun f => rfl) ?_
    refine zW_cl rfl rfl rfl rfl rfl (s142 ?_)
    change zW zm_212 18 [some (.ref 75), some (.int x1), some (.int x2), some (.int x3), some (.int rv), none] [.int (0 : Int32)] p _ Q
    exact zW_rh (some (.int (0 : Int32))) 1 (fun f => rfl) H
theorem b212_27 {K : zKt} {code rf rs pr pn : Int32} {bad : Bool} {J : zJt} {m pa pb pc vf vs : Nat → Int32} {B : zBt} {w : Nat → Int64} {p : Nat × Nat} {Q : zR → zH → Prop} {x1 x2 x3 rv : Int32} {s0 s1 : Int64} (H : (((zin s1 s0 (((rv - (1 : Int32))).toInt64)) = false → Q (.inl (some (.int (0 : Int32)))) (zh K ((3 : Int32), rf, rs, bad, pr, pn, J) (m, pa, pb, pc, vf, vs, B) w)) ∧ ((zin s1 s0 (((rv - (1 : Int32))).toInt64)) = true → (((zin ((x3).toInt64) (0 : Int64) (1 : Int64)) = true → ∀ k_x3, 0 ≤ k_x3 ∧ k_x3 ≤ 1 → x3 = Int32.ofNat k_x3 → zT zm_208 [.ref 75, .int x1] p (zh K (code, rf, rs, bad, pr, pn, J) (m, pa, pb, pc, vf, vs, B) w) (zK zm_212 57 [some (.ref 75), none, some (.int x2), some (.int (Int32.ofNat k_x3)), none, none] [] p Q)) ∧ ((zin ((x3).toInt64) (0 : Int64) (1 : Int64)) = false → Q (.inl (some (.int (0 : Int32)))) (zh K ((3 : Int32), rf, rs, bad, pr, pn, J) (m, pa, pb, pc, vf, vs, B) w)))))) : zW zm_212 27 [some (.ref 75), some (.int x1), some (.int x2), some (.int x3), none, none] [.int rv, .long s0, .long s1] p (zh K (code, rf, rs, bad, pr, pn, J) (m, pa, pb, pc, vf, vs, B) w) Q := by
  refine zW_gh 30 [some (.ref 75), some (.int x1), some (.int x2), some (.int x3), none, none] [.long (((rv - (1 : Int32))).toInt64), .long s0, .long s1] 3 (fun f => rfl) ?_
  refine zW_cl rfl rfl rfl rfl rfl (s141 ?_)
  change zW zm_212 33 [some (.ref 75), some (.int x1), some (.int x2), some (.int x3), none, none] [.int (zbi (zin s1 s0 (((rv - (1 : Int32))).toInt64)))] p _ Q
  refine zW_bh (zcmp .eq (zbi (zin s1 s0 (((rv - (1 : Int32))).toInt64))) (0 : Int32)) 46 36 [some (.ref 75), some (.int x1), some (.int x2), some (.int x3), none, none] [] 1 (fun f => rfl) (fun c => ?_) (fun c => ?_)
  · have c9 : (zin s1 s0 (((rv - (1 : Int32))).toInt64)) = false := ((Bool.not_eq_true' _).mp ((zcB_eq _).symm.trans c))
    replace H := H.1 c9
    refine zW_gh 48 [some (.ref 75), some (.int x1), some (.int x2), some (.int x3), none, none] [.int (3 : Int32), .ref 75] 2 (fun f => rfl) ?_
    refine zW_cl rfl rfl rfl rfl rfl (s142 ?_)
    change zW zm_212 51 [some (.ref 75), some (.int x1), some (.int x2), some (.int x3), none, none] [.int (0 : Int32)] p _ Q
    exact zW_rh (some (.int (0 : Int32))) 1 (fun f => rfl) H
  · have c9 : (zin s1 s0 (((rv - (1 : Int32))).toInt64)) = true := ((Bool.not_eq_false' _).mp ((zcB_eq _).symm.trans c))
    replace H := H.2 c9
    refine zW_gh 40 [some (.ref 75), some (.int x1), some (.int x2), some (.int x3), none, none] [.long (1 : Int64), .long (0 : Int64), .long ((x3).toInt64)] 4 (fun f => rfl) ?_
    refine zW_cl rfl rfl rfl rfl rfl (s141 ?_)
    change zW zm_212 43 [some (.ref 75), some (.int x1), some (.int x2), some (.int x3), none, none] [.int (zbi (zin ((x3).toInt64) (0 : Int64) (1 : Int64)))] p _ Q
    refine zW_bh (zcmp .ne (zbi (zin ((x3).toInt64) (0 : Int64) (1 : Int64))) (0 : Int32)) 52 46 [some (.ref 75), some (.int x1), some (.int x2), some (.int x3), none, none] [] 1 (fun f => rfl) (fun c => ?_) (fun c => ?_)
    · have c9 : (zin ((x3).toInt64) (0 : Int64) (1 : Int64)) = true := ((zcB_ne _).symm.trans c)
      replace H := H.1 c9
      obtain ⟨k_x3, h_k_x3, e_k_x3⟩ := zin_k (l := 0) (h := 1) (by decide) (by decide) c9
      replace H := H k_x3 h_k_x3 e_k_x3
      subst e_k_x3
      refine zW_gh 54 [some (.ref 75), some (.int x1), some (.int x2), some (.int (Int32.ofNat k_x3)), none, none] [.int x1, .ref 75] 2 (fun f => rfl) ?_
      refine zW_fg (L' := [some (.ref 75), none, some (.int x2), some (.int (Int32.ofNat k_x3)), none, none]) (zle_s _ (zle_n _ (zle_s _ (zle_s _ (zle_s _ (zle_s _ zle_nil)))))) ?_
      exact zW_cl rfl rfl rfl rfl rfl H
    · have c9 : (zin ((x3).toInt64) (0 : Int64) (1 : Int64)) = false := ((zcB_ne _).symm.trans c)
      replace H := H.2 c9
      refine zW_gh 48 [some (.ref 75), some (.int x1), some (.int x2), some (.int x3), none, none] [.int (3 : Int32), .ref 75] 2 (fun f => rfl) ?_
      refine zW_cl rfl rfl rfl rfl rfl (s142 ?_)
      change zW zm_212 51 [some (.ref 75), some (.int x1), some (.int x2), some (.int x3), none, none] [.int (0 : Int32)] p _ Q
      exact zW_rh (some (.int (0 : Int32))) 1 (fun f => rfl) H
theorem b212_57 {K : zKt} {code rf rs pr pn : Int32} {bad : Bool} {J : zJt} {m pa pb pc vf vs : Nat → Int32} {B : zBt} {w : Nat → Int64} {p : Nat × Nat} {Q : zR → zH → Prop} {x3 : Nat} {x2 rv : Int32} (H : ((bad = false → (∃ j1, ((((3208 : Int32) + ((8 : Int32) * x2)) + ((2 : Int32) * x2)) + (Int32.ofNat x3)) = Int32.ofNat j1 ∧ (j1 < 5340 ∧ Q (.inl (some (.int (m j1)))) (zh K (code, rf, rs, bad, pr, pn, J) (m, pa, pb, pc, vf, vs, B) w)))) ∧ (bad = true → Q (.inl (some (.int (0 : Int32)))) (zh K ((4 : Int32), rf, rs, bad, pr, pn, J) (m, pa, pb, pc, vf, vs, B) w)))) : zW zm_212 57 [some (.ref 75), none, some (.int x2), some (.int (Int32.ofNat x3)), none, none] [.int rv] p (zh K (code, rf, rs, bad, pr, pn, J) (m, pa, pb, pc, vf, vs, B) w) Q := by
  refine zW_bh (zcmp .eq (zbi bad) (0 : Int32)) 74 66 [some (.ref 75), none, some (.int x2), some (.int (Int32.ofNat x3)), none, some (.int rv)] [] 4 (fun f => rfl) (fun c => ?_) (fun c => ?_)
  · have c9 : bad = false := ((Bool.not_eq_true' _).mp ((zcB_eq _).symm.trans c))
    replace H := H.1 c9
    refine zW_gh 83 [some (.ref 75), none, some (.int x2), some (.int (Int32.ofNat x3)), none, some (.int rv)] [.int x2, .int x2, .int (3204 : Int32), .ref 76] 5 (fun f => rfl) ?_
    refine zW_cl rfl rfl rfl rfl rfl (s151 ?_)
    change zW zm_212 86 [some (.ref 75), none, some (.int x2), some (.int (Int32.ofNat x3)), none, some (.int rv)] [.int (((3208 : Int32) + ((8 : Int32) * x2)) + ((2 : Int32) * x2)), .ref 76] p _ Q
    refine zW_gh 88 [some (.ref 75), none, some (.int x2), some (.int (Int32.ofNat x3)), none, some (.int rv)] [.int ((((3208 : Int32) + ((8 : Int32) * x2)) + ((2 : Int32) * x2)) + (Int32.ofNat x3)), .ref 76] 2 (fun f => rfl) ?_
    obtain ⟨j1, e_j1, H⟩ := H
    obtain ⟨h2, H⟩ := H
    refine zW_iald rfl (by decide) rfl (by decide) e_j1 h2 ?_
    exact zW_rh (some (.int (m j1))) 1 (fun f => rfl) H
  · have c9 : bad = true := ((Bool.not_eq_false' _).mp ((zcB_eq _).symm.trans c))
    replace H := H.2 c9
    refine zW_gh 68 [some (.ref 75), none, some (.int x2), some (.int (Int32.ofNat x3)), none, some (.int rv)] [.int (4 : Int32), .ref 75] 2 (fun f => rfl) ?_
    refine zW_cl rfl rfl rfl rfl rfl (s142 ?_)
    change zW zm_212 71 [some (.ref 75), none, some (.int x2), some (.int (Int32.ofNat x3)), none, some (.int rv)] [.int (0 : Int32)] p _ Q
    refine zW_gh 89 [some (.ref 75), none, some (.int x2), some (.int (Int32.ofNat x3)), none, some (.int rv)] [.int (0 : Int32)] 1 (fun f => rfl) ?_
    exact zW_rh (some (.int (0 : Int32))) 1 (fun f => rfl) H
set_option maxRecDepth 20000 in
theorem b214 {K : zKt} {code rf rs pr pn : Int32} {bad : Bool} {J : zJt} {m pa pb pc vf vs : Nat → Int32} {B : zBt} {w : Nat → Int64} {p : Nat × Nat} {Q : zR → zH → Prop} {a0 : Int32} (H : zT zm_169 [.ref 75, .int a0] p (zh K (code, rf, rs, bad, pr, pn, J) (m, pa, pb, pc, vf, vs, B) w) (zK zm_214 5 [some (.ref 75), some (.int a0), none, none, none, none, none, none, none, none, none, none, none, none, none] [] p Q)) : zT zm_214 [.ref 75, .int a0] p (zh K (code, rf, rs, bad, pr, pn, J) (m, pa, pb, pc, vf, vs, B) w) Q := by
  change zW zm_214 0 [some (.ref 75), some (.int a0), none, none, none, none, none, none, none, none, none, none, none, none, none] [] p _ Q
  refine zW_gh 2 [some (.ref 75), some (.int a0), none, none, none, none, none, none, none, none, none, none, none, none, none] [.int a0, .ref 75] 2 (fun f => rfl) ?_
  exact zW_cl rfl rfl rfl rfl rfl H
set_option maxRecDepth 20000 in
theorem b214_5 {K : zKt} {code rf rs pr pn : Int32} {bad : Bool} {J : zJt} {m pa pb pc vf vs : Nat → Int32} {B : zBt} {w : Nat → Int64} {p : Nat × Nat} {Q : zR → zH → Prop} {x1 rv : Int32} (H : ((rv ≤ (0 : Int32) → zT zm_208 [.ref 75, .int x1] p (zh K (code, rf, rs, bad, pr, pn, J) (m, pa, pb, pc, vf, vs, B) w) (zK zm_214 22 [some (.ref 75), none, none, none, none, none, none, none, none, none, none, none, none, none, none] [] p Q)) ∧ (¬ rv ≤ (0 : Int32) → Q (.inl (some (.long (0 : Int64)))) (zh K (rv, rf, rs, bad, pr, pn, J) (m, pa, pb, pc, vf, vs, B) w)))) : zW zm_214 5 [some (.ref 75), some (.int x1), none, none, none, none, none, none, none, none, none, none, none, none, none] [.int rv] p (zh K (code, rf, rs, bad, pr, pn, J) (m, pa, pb, pc, vf, vs, B) w) Q := by
  refine zW_bh (zcmp .le rv (0 : Int32)) 17 10 [some (.ref 75), some (.int x1), some (.int rv), none, none, none, none, none, none, none, none, none, none, none, none] [] 3 (fun f => rfl) (fun c => ?_) (fun c => ?_)
  · have c9 : rv ≤ (0 : Int32) := (of_decide_eq_true c)
    replace H := H.1 c9
    refine zW_gh 19 [some (.ref 75), some (.int x1), some (.int rv), none, none, none, none, none, none, none, none, none, none, none, none] [.int x1, .ref 75] 2 (fun f => rfl) ?_
    refine zW_fg (L' := [some (.ref 75), none, none, none, none, none, none, none, none, none, none, none, none, none, none]) (zle_s _ (zle_n _ (zle_n _ (zle_s _ (zle_s _ (zle_s _ (zle_s _ (zle_s _ (zle_s _ (zle_s _ (zle_s _ (zle_s _ (zle_s _ (zle_s _ (zle_s _ zle_nil))))))))))))))) ?_
    exact zW_cl rfl rfl rfl rfl rfl H
  · have c9 : ¬ rv ≤ (0 : Int32) := (of_decide_eq_false c)
    replace H := H.2 c9
    refine zW_gh 12 [some (.ref 75), some (.int x1), some (.int rv), none, none, none, none, none, none, none, none, none, none, none, none] [.int rv, .ref 75] 2 (fun f => rfl) ?_
    refine zW_cl rfl rfl rfl rfl rfl (s142 ?_)
    change zW zm_214 15 [some (.ref 75), some (.int x1), some (.int rv), none, none, none, none, none, none, none, none, none, none, none, none] [.int (0 : Int32)] p _ Q
    refine zW_gh 16 [some (.ref 75), some (.int x1), some (.int rv), none, none, none, none, none, none, none, none, none, none, none, none] [.long (0 : Int64)] 1 (fun f => rfl) ?_
    exact zW_rh (some (.long (0 : Int64))) 1 (fun f => rfl) H
set_option maxRecDepth 20000 in
theorem b214_22 {K : zKt} {code rf rs pr pn : Int32} {bad : Bool} {J : zJt} {m pa pb pc vf vs : Nat → Int32} {B : zBt} {w : Nat → Int64} {p : Nat × Nat} {Q : zR → zH → Prop} {rv : Int32} (H : ((bad = false → (((m 3205) ≤ rv → zW zm_214 67 [some (.ref 75), none, none, some (.int rv), some (.int (m 3204)), some (.long (1 : Int64)), none, some (.int (Int32.ofNat 0)), none, none, none, none, none, none, none] [] p (zh K (code, rf, rs, bad, pr, pn, J) (m, pa, pb, pc, vf, vs, B) w) Q) ∧ (¬ (m 3205) ≤ rv → Q (.inl (some (.long (0 : Int64)))) (zh K (code, rf, rs, bad, pr, pn, J) (m, pa, pb, pc, vf, vs, B) w)))) ∧ (bad = true → Q (.inl (some (.long (0 : Int64)))) (zh K ((3 : Int32), rf, rs, bad, pr, pn, J) (m, pa, pb, pc, vf, vs, B) w)))) : zW zm_214 22 [some (.ref 75), none, none, none, none, none, none, none, none, none, none, none, none, none, none] [.int rv] p (zh K (code, rf, rs, bad, pr, pn, J) (m, pa, pb, pc, vf, vs, B) w) Q := by
  refine zW_bh (zcmp .eq (zbi bad) (0 : Int32)) 37 30 [some (.ref 75), none, none, some (.int rv), none, none, none, none, none, none, none, none, none, none, none] [] 4 (fun f => rfl) (fun c => ?_) (fun c => ?_)
  · have c9 : bad = false := ((Bool.not_eq_true' _).mp ((zcB_eq _).symm.trans c))
    replace H := H.1 c9
    refine zW_gh 45 [some (.ref 75), none, none, some (.int rv), none, none, none, none, none, none, none, none, none, none, none] [.int (3205 : Int32), .ref 76, .int rv] 4 (fun f => rfl) ?_
    refine zW_iald rfl (by decide) rfl (by decide) rfl (by decide) ?_
    refine zW_bh (zcmp .ge rv (m 3205)) 51 49 [some (.ref 75), none, none, some (.int rv), none, none, none, none, none, none, none, none, none, none, none] [] 1 (fun f => rfl) (fun c => ?_) (fun c => ?_)
    · have c9 : (m 3205) ≤ rv := (of_decide_eq_true c)
      replace H := H.1 c9
      refine zW_gh 58 [some (.ref 75), none, none, some (.int rv), none, none, none, none, none, none, none, none, none, none, none] [.int (3204 : Int32), .ref 76] 3 (fun f => rfl) ?_
      refine zW_iald rfl (by decide) rfl (by decide) rfl (by decide) ?_
      refine zW_gh 67 [some (.ref 75), none, none, some (.int rv), some (.int (m 3204)), some (.long (1 : Int64)), none, some (.int (0 : Int32)), none, none, none, none, none, none, none] [] 5 (fun f => rfl) ?_
      exact H
    · have c9 : ¬ (m 3205) ≤ rv := (of_decide_eq_false c)
      replace H := H.2 c9
      refine zW_gh 50 [some (.ref 75), none, none, some (.int rv), none, none, none, none, none, none, none, none, none, none, none] [.long (0 : Int64)] 1 (fun f => rfl) ?_
      exact zW_rh (some (.long (0 : Int64))) 1 (fun f => rfl) H
  · have c9 : bad = true := ((Bool.not_eq_false' _).mp ((zcB_eq _).symm.trans c))
    replace H := H.2 c9
    refine zW_gh 32 [some (.ref 75), none, none, some (.int rv), none, none, none, none, none, none, none, none, none, none, none] [.int (3 : Int32), .ref 75] 2 (fun f => rfl) ?_
    refine zW_cl rfl rfl rfl rfl rfl (s142 ?_)
    change zW zm_214 35 [some (.ref 75), none, none, some (.int rv), none, none, none, none, none, none, none, none, none, none, none] [.int (0 : Int32)] p _ Q
    refine zW_gh 36 [some (.ref 75), none, none, some (.int rv), none, none, none, none, none, none, none, none, none, none, none] [.long (0 : Int64)] 1 (fun f => rfl) ?_
    exact zW_rh (some (.long (0 : Int64))) 1 (fun f => rfl) H
set_option maxRecDepth 20000 in
theorem b214_67 {K : zKt} {code rf rs pr pn : Int32} {bad : Bool} {J : zJt} {m pa pb pc vf vs : Nat → Int32} {B : zBt} {w : Nat → Int64} {p : Nat × Nat} {Q : zR → zH → Prop} {x7 : Nat} {x3 x4 : Int32} {x5 : Int64} (H : ((x3 ≤ (Int32.ofNat x7) → Q (.inl (some (.long x5))) (zh K (code, rf, rs, bad, pr, pn, J) (m, pa, pb, pc, vf, vs, B) w)) ∧ (¬ x3 ≤ (Int32.ofNat x7) → (((3208 + (8 * x7)) + (2 * x7)) < 5340 ∧ ((((3208 + (8 * x7)) + (2 * x7)) + 1) < 5340 ∧ zT zm_189 [.ref 75, .int x4, .int (m ((3208 + (8 * x7)) + (2 * x7))), .int (m (((3208 + (8 * x7)) + (2 * x7)) + 1))] p (zh K (code, rf, rs, bad, pr, pn, J) (m, pa, pb, pc, vf, vs, B) w) (zK zm_214 107 [some (.ref 75), none, none, some (.int x3), some (.int x4), some (.long x5), none, some (.int (Int32.ofNat x7)), none, none, none, none, none, none, none] [] p Q)))))) : zW zm_214 67 [some (.ref 75), none, none, some (.int x3), some (.int x4), some (.long x5), none, some (.int (Int32.ofNat x7)), none, none, none, none, none, none, none] [] p (zh K (code, rf, rs, bad, pr, pn, J) (m, pa, pb, pc, vf, vs, B) w) Q := by
  refine zW_bh (zcmp .ge (Int32.ofNat x7) x3) 189 73 [some (.ref 75), none, none, some (.int x3), some (.int x4), some (.long x5), none, some (.int (Int32.ofNat x7)), none, none, none, none, none, none, none] [] 3 (fun f => rfl) (fun c => ?_) (fun c => ?_)
  · have c9 : x3 ≤ (Int32.ofNat x7) := (of_decide_eq_true c)
    replace H := H.1 c9
    refine zW_gh 191 [some (.ref 75), none, none, some (.int x3), some (.int x4), some (.long x5), none, some (.int (Int32.ofNat x7)), none, none, none, none, none, none, none] [.long x5] 1 (fun f => rfl) ?_
    exact zW_rh (some (.long x5)) 1 (fun f => rfl) H
  · have c9 : ¬ x3 ≤ (Int32.ofNat x7) := (of_decide_eq_false c)
    replace H := H.2 c9
    refine zW_gh 80 [some (.ref 75), none, none, some (.int x3), some (.int x4), some (.long x5), none, some (.int (Int32.ofNat x7)), none, none, none, none, none, none, none] [.int (Int32.ofNat x7), .int (Int32.ofNat x7), .int (3204 : Int32)] 3 (fun f => rfl) ?_
    refine zW_cl rfl rfl rfl rfl rfl (s151 ?_)
    change zW zm_214 83 [some (.ref 75), none, none, some (.int x3), some (.int x4), some (.long x5), none, some (.int (Int32.ofNat x7)), none, none, none, none, none, none, none] [.int (((3208 : Int32) + ((8 : Int32) * (Int32.ofNat x7))) + ((2 : Int32) * (Int32.ofNat x7)))] p _ Q
    refine zW_gh 85 [some (.ref 75), none, none, some (.int x3), some (.int x4), some (.long x5), none, some (.int (Int32.ofNat x7)), some (.int (((3208 : Int32) + ((8 : Int32) * (Int32.ofNat x7))) + ((2 : Int32) * (Int32.ofNat x7)))), none, none, none, none, none, none] [] 1 (fun f => rfl) ?_
    rw [show (((3208 : Int32) + ((8 : Int32) * (Int32.ofNat x7))) + ((2 : Int32) * (Int32.ofNat x7))) = Int32.ofNat ((3208 + (8 * x7)) + (2 * x7)) from (zN_a (zN_a rfl (zN_m rfl rfl)) (zN_m rfl rfl))]
    refine zW_gh 94 [some (.ref 75), none, none, some (.int x3), some (.int x4), some (.long x5), none, some (.int (Int32.ofNat x7)), some (.int (Int32.ofNat ((3208 + (8 * x7)) + (2 * x7)))), none, none, none, none, none, none] [.int (Int32.ofNat ((3208 + (8 * x7)) + (2 * x7))), .ref 76, .int x4, .ref 75] 5 (fun f => rfl) ?_
    obtain ⟨h1, H⟩ := H
    refine zW_iald rfl (by decide) rfl (by decide) rfl h1 ?_
    refine zW_gh 103 [some (.ref 75), none, none, some (.int x3), some (.int x4), some (.long x5), none, some (.int (Int32.ofNat x7)), some (.int (Int32.ofNat ((3208 + (8 * x7)) + (2 * x7)))), none, none, none, none, none, none] [.int ((Int32.ofNat ((3208 + (8 * x7)) + (2 * x7))) + (1 : Int32)), .ref 76, .int (m ((3208 + (8 * x7)) + (2 * x7))), .int x4, .ref 75] 5 (fun f => rfl) ?_
    obtain ⟨h2, H⟩ := H
    refine zW_iald rfl (by decide) rfl (by decide) (zN_a rfl rfl) h2 ?_
    refine zW_fg (L' := [some (.ref 75), none, none, some (.int x3), some (.int x4), some (.long x5), none, some (.int (Int32.ofNat x7)), none, none, none, none, none, none, none]) (zle_s _ (zle_s _ (zle_s _ (zle_s _ (zle_s _ (zle_s _ (zle_s _ (zle_s _ (zle_n _ (zle_s _ (zle_s _ (zle_s _ (zle_s _ (zle_s _ (zle_s _ zle_nil))))))))))))))) ?_
    exact zW_cl rfl rfl rfl rfl rfl H
set_option maxRecDepth 20000 in
theorem b214_107 {K : zKt} {code rf rs pr pn : Int32} {bad : Bool} {J : zJt} {m pa pb pc vf vs : Nat → Int32} {B : zBt} {w : Nat → Int64} {p : Nat × Nat} {Q : zR → zH → Prop} {x7 : Nat} {x3 x4 : Int32} {x5 rv : Int64} (H : (((2 : Int32) ≤ x4 → zW zm_214 126 [some (.ref 75), none, none, some (.int x3), some (.int x4), some (.long x5), none, some (.int (Int32.ofNat x7)), none, some (.long rv), none, some (.long (1 : Int64)), none, some (.long (1 : Int64)), none] [] p (zh K (code, rf, rs, bad, pr, pn, J) (m, pa, pb, pc, vf, vs, B) w) Q) ∧ (¬ (2 : Int32) ≤ x4 → zW zm_214 126 [some (.ref 75), none, none, some (.int x3), some (.int x4), some (.long x5), none, some (.int (Int32.ofNat x7)), none, some (.long rv), none, some (.long rv), none, some (.long (1 : Int64)), none] [] p (zh K (code, rf, rs, bad, pr, pn, J) (m, pa, pb, pc, vf, vs, B) w) Q))) : zW zm_214 107 [some (.ref 75), none, none, some (.int x3), some (.int x4), some (.long x5), none, some (.int (Int32.ofNat x7)), none, none, none, none, none, none, none] [.long rv] p (zh K (code, rf, rs, bad, pr, pn, J) (m, pa, pb, pc, vf, vs, B) w) Q := by
  refine zW_bh (zcmp .ge x4 (2 : Int32)) 120 115 [some (.ref 75), none, none, some (.int x3), some (.int x4), some (.long x5), none, some (.int (Int32.ofNat x7)), none, some (.long rv), none, none, none, none, none] [] 4 (fun f => rfl) (fun c => ?_) (fun c => ?_)
  · have c9 : (2 : Int32) ≤ x4 := (of_decide_eq_true c)
    replace H := H.1 c9
    refine zW_gh 126 [some (.ref 75), none, none, some (.int x3), some (.int x4), some (.long x5), none, some (.int (Int32.ofNat x7)), none, some (.long rv), none, some (.long (1 : Int64)), none, some (.long (1 : Int64)), none] [] 4 (fun f => rfl) ?_
    exact H
  · have c9 : ¬ (2 : Int32) ≤ x4 := (of_decide_eq_false c)
    replace H := H.2 c9
    refine zW_gh 126 [some (.ref 75), none, none, some (.int x3), some (.int x4), some (.long x5), none, some (.int (Int32.ofNat x7)), none, some (.long rv), none, some (.long rv), none, some (.long (1 : Int64)), none] [] 5 (fun f => rfl) ?_
    exact H
set_option maxRecDepth 20000 in
theorem b214_126 {K : zKt} {code rf rs pr pn : Int32} {bad : Bool} {J : zJt} {m pa pb pc vf vs : Nat → Int32} {B : zBt} {w : Nat → Int64} {p : Nat × Nat} {Q : zR → zH → Prop} {x7 : Nat} {x3 x4 : Int32} {x5 x9 x11 x13 : Int64} (H : ((x9 ≤ x13 → (x11 ≠ 0 ∧ ((x5 ≤ ((1000000000000000000 : Int64) / x11) → zW zm_214 67 [some (.ref 75), none, none, some (.int x3), some (.int x4), some (.long (x5 * x11)), none, some (.int (Int32.ofNat (x7 + 1))), none, none, none, none, none, none, none] [] p (zh K (code, rf, rs, bad, pr, pn, J) (m, pa, pb, pc, vf, vs, B) w) Q) ∧ (¬ x5 ≤ ((1000000000000000000 : Int64) / x11) → Q (.inl (some (.long (0 : Int64)))) (zh K ((3 : Int32), rf, rs, bad, pr, pn, J) (m, pa, pb, pc, vf, vs, B) w))))) ∧ (¬ x9 ≤ x13 → ((x4 ≤ (1 : Int32) → (x11 ≠ 0 ∧ ((x5 ≤ ((1000000000000000000 : Int64) / x11) → zW zm_214 67 [some (.ref 75), none, none, some (.int x3), some (.int x4), some (.long (x5 * x11)), none, some (.int (Int32.ofNat (x7 + 1))), none, none, none, none, none, none, none] [] p (zh K (code, rf, rs, bad, pr, pn, J) (m, pa, pb, pc, vf, vs, B) w) Q) ∧ (¬ x5 ≤ ((1000000000000000000 : Int64) / x11) → Q (.inl (some (.long (0 : Int64)))) (zh K ((3 : Int32), rf, rs, bad, pr, pn, J) (m, pa, pb, pc, vf, vs, B) w))))) ∧ (¬ x4 ≤ (1 : Int32) → zW zm_214 126 [some (.ref 75), none, none, some (.int x3), some (.int x4), some (.long x5), none, some (.int (Int32.ofNat x7)), none, some (.long x9), none, some (.long (x11 * ((x4).toInt64))), none, some (.long (x13 + (1 : Int64))), none] [] p (zh K (code, rf, rs, bad, pr, pn, J) (m, pa, pb, pc, vf, vs, B) w) Q))))) : zW zm_214 126 [some (.ref 75), none, none, some (.int x3), some (.int x4), some (.long x5), none, some (.int (Int32.ofNat x7)), none, some (.long x9), none, some (.long x11), none, some (.long x13), none] [] p (zh K (code, rf, rs, bad, pr, pn, J) (m, pa, pb, pc, vf, vs, B) w) Q := by
  refine zW_bh (zcmp .ge (lg_cmp x13 x9) (0 : Int32)) 157 134 [some (.ref 75), none, none, some (.int x3), some (.int x4), some (.long x5), none, some (.int (Int32.ofNat x7)), none, some (.long x9), none, some (.long x11), none, some (.long x13), none] [] 4 (fun f => rfl) (fun c => ?_) (fun c => ?_)
  · have c9 : x9 ≤ x13 := (of_decide_eq_true ((zcL_ge _ _).symm.trans c))
    replace H := H.1 c9
    refine zW_gh 164 [some (.ref 75), none, none, some (.int x3), some (.int x4), some (.long x5), none, some (.int (Int32.ofNat x7)), none, some (.long x9), none, some (.long x11), none, some (.long x13), none] [.long x11, .long (1000000000000000000 : Int64), .long x5] 3 (fun f => rfl) ?_
    obtain ⟨h1, H⟩ := H
    refine zW_ldiv rfl h1 ?_
    refine zW_bh (zcmp .le (lg_cmp x5 ((1000000000000000000 : Int64) / x11)) (0 : Int32)) 176 169 [some (.ref 75), none, none, some (.int x3), some (.int x4), some (.long x5), none, some (.int (Int32.ofNat x7)), none, some (.long x9), none, some (.long x11), none, some (.long x13), none] [] 2 (fun f => rfl) (fun c => ?_) (fun c => ?_)
    · have c9 : x5 ≤ ((1000000000000000000 : Int64) / x11) := (of_decide_eq_true ((zcL_le _ _).symm.trans c))
      replace H := H.1 c9
      refine zW_gh 183 [some (.ref 75), none, none, some (.int x3), some (.int x4), some (.long (x5 * x11)), none, some (.int (Int32.ofNat x7)), none, some (.long x9), none, some (.long x11), none, some (.long x13), none] [] 4 (fun f => rfl) ?_
      refine zW_inc [some (.ref 75), none, none, some (.int x3), some (.int x4), some (.long (x5 * x11)), none, some (.int ((Int32.ofNat x7) + (1 : Int32))), none, some (.long x9), none, some (.long x11), none, some (.long x13), none] rfl rfl rfl ?_
      rw [show ((Int32.ofNat x7) + (1 : Int32)) = Int32.ofNat (x7 + 1) from (zN_a rfl rfl)]
      refine zW_gh 67 [some (.ref 75), none, none, some (.int x3), some (.int x4), some (.long (x5 * x11)), none, some (.int (Int32.ofNat (x7 + 1))), none, some (.long x9), none, some (.long x11), none, some (.long x13), none] [] 1 (fun f => rfl) ?_
      refine zW_fg (L' := [some (.ref 75), none, none, some (.int x3), some (.int x4), some (.long (x5 * x11)), none, some (.int (Int32.ofNat (x7 + 1))), none, none, none, none, none, none, none]) (zle_s _ (zle_s _ (zle_s _ (zle_s _ (zle_s _ (zle_s _ (zle_s _ (zle_s _ (zle_s _ (zle_n _ (zle_s _ (zle_n _ (zle_s _ (zle_n _ (zle_s _ zle_nil))))))))))))))) ?_
      exact H
    · have c9 : ¬ x5 ≤ ((1000000000000000000 : Int64) / x11) := (of_decide_eq_false ((zcL_le _ _).symm.trans c))
      replace H := H.2 c9
      refine zW_gh 171 [some (.ref 75), none, none, some (.int x3), some (.int x4), some (.long x5), none, some (.int (Int32.ofNat x7)), none, some (.long x9), none, some (.long x11), none, some (.long x13), none] [.int (3 : Int32), .ref 75] 2 (fun f => rfl) ?_
      refine zW_cl rfl rfl rfl rfl rfl (s142 ?_)
      change zW zm_214 174 [some (.ref 75), none, none, some (.int x3), some (.int x4), some (.long x5), none, some (.int (Int32.ofNat x7)), none, some (.long x9), none, some (.long x11), none, some (.long x13), none] [.int (0 : Int32)] p _ Q
      refine zW_gh 175 [some (.ref 75), none, none, some (.int x3), some (.int x4), some (.long x5), none, some (.int (Int32.ofNat x7)), none, some (.long x9), none, some (.long x11), none, some (.long x13), none] [.long (0 : Int64)] 1 (fun f => rfl) ?_
      exact zW_rh (some (.long (0 : Int64))) 1 (fun f => rfl) H
  · have c9 : ¬ x9 ≤ x13 := (of_decide_eq_false ((zcL_ge _ _).symm.trans c))
    replace H := H.2 c9
    refine zW_bh (zcmp .le x4 (1 : Int32)) 157 140 [some (.ref 75), none, none, some (.int x3), some (.int x4), some (.long x5), none, some (.int (Int32.ofNat x7)), none, some (.long x9), none, some (.long x11), none, some (.long x13), none] [] 3 (fun f => rfl) (fun c => ?_) (fun c => ?_)
    · have c9 : x4 ≤ (1 : Int32) := (of_decide_eq_true c)
      replace H := H.1 c9
      refine zW_gh 164 [some (.ref 75), none, none, some (.int x3), some (.int x4), some (.long x5), none, some (.int (Int32.ofNat x7)), none, some (.long x9), none, some (.long x11), none, some (.long x13), none] [.long x11, .long (1000000000000000000 : Int64), .long x5] 3 (fun f => rfl) ?_
      obtain ⟨h2, H⟩ := H
      refine zW_ldiv rfl h2 ?_
      refine zW_bh (zcmp .le (lg_cmp x5 ((1000000000000000000 : Int64) / x11)) (0 : Int32)) 176 169 [some (.ref 75), none, none, some (.int x3), some (.int x4), some (.long x5), none, some (.int (Int32.ofNat x7)), none, some (.long x9), none, some (.long x11), none, some (.long x13), none] [] 2 (fun f => rfl) (fun c => ?_) (fun c => ?_)
      · have c9 : x5 ≤ ((1000000000000000000 : Int64) / x11) := (of_decide_eq_true ((zcL_le _ _).symm.trans c))
        replace H := H.1 c9
        refine zW_gh 183 [some (.ref 75), none, none, some (.int x3), some (.int x4), some (.long (x5 * x11)), none, some (.int (Int32.ofNat x7)), none, some (.long x9), none, some (.long x11), none, some (.long x13), none] [] 4 (fun f => rfl) ?_
        refine zW_inc [some (.ref 75), none, none, some (.int x3), some (.int x4), some (.long (x5 * x11)), none, some (.int ((Int32.ofNat x7) + (1 : Int32))), none, some (.long x9), none, some (.long x11), none, some (.long x13), none] rfl rfl rfl ?_
        rw [show ((Int32.ofNat x7) + (1 : Int32)) = Int32.ofNat (x7 + 1) from (zN_a rfl rfl)]
        refine zW_gh 67 [some (.ref 75), none, none, some (.int x3), some (.int x4), some (.long (x5 * x11)), none, some (.int (Int32.ofNat (x7 + 1))), none, some (.long x9), none, some (.long x11), none, some (.long x13), none] [] 1 (fun f => rfl) ?_
        refine zW_fg (L' := [some (.ref 75), none, none, some (.int x3), some (.int x4), some (.long (x5 * x11)), none, some (.int (Int32.ofNat (x7 + 1))), none, none, none, none, none, none, none]) (zle_s _ (zle_s _ (zle_s _ (zle_s _ (zle_s _ (zle_s _ (zle_s _ (zle_s _ (zle_s _ (zle_n _ (zle_s _ (zle_n _ (zle_s _ (zle_n _ (zle_s _ zle_nil))))))))))))))) ?_
        exact H
      · have c9 : ¬ x5 ≤ ((1000000000000000000 : Int64) / x11) := (of_decide_eq_false ((zcL_le _ _).symm.trans c))
        replace H := H.2 c9
        refine zW_gh 171 [some (.ref 75), none, none, some (.int x3), some (.int x4), some (.long x5), none, some (.int (Int32.ofNat x7)), none, some (.long x9), none, some (.long x11), none, some (.long x13), none] [.int (3 : Int32), .ref 75] 2 (fun f => rfl) ?_
        refine zW_cl rfl rfl rfl rfl rfl (s142 ?_)
        change zW zm_214 174 [some (.ref 75), none, none, some (.int x3), some (.int x4), some (.long x5), none, some (.int (Int32.ofNat x7)), none, some (.long x9), none, some (.long x11), none, some (.long x13), none] [.int (0 : Int32)] p _ Q
        refine zW_gh 175 [some (.ref 75), none, none, some (.int x3), some (.int x4), some (.long x5), none, some (.int (Int32.ofNat x7)), none, some (.long x9), none, some (.long x11), none, some (.long x13), none] [.long (0 : Int64)] 1 (fun f => rfl) ?_
        exact zW_rh (some (.long (0 : Int64))) 1 (fun f => rfl) H
    · have c9 : ¬ x4 ≤ (1 : Int32) := (of_decide_eq_false c)
      replace H := H.2 c9
      refine zW_gh 154 [some (.ref 75), none, none, some (.int x3), some (.int x4), some (.long x5), none, some (.int (Int32.ofNat x7)), none, some (.long x9), none, some (.long (x11 * ((x4).toInt64))), none, some (.long (x13 + (1 : Int64))), none] [] 9 (fun f => rfl) ?_
      refine zW_gh 126 [some (.ref 75), none, none, some (.int x3), some (.int x4), some (.long x5), none, some (.int (Int32.ofNat x7)), none, some (.long x9), none, some (.long (x11 * ((x4).toInt64))), none, some (.long (x13 + (1 : Int64))), none] [] 1 (fun f => rfl) ?_
      exact H
set_option maxRecDepth 20000 in
theorem b216 {K : zKt} {code rf rs pr pn : Int32} {bad : Bool} {J : zJt} {m pa pb pc vf vs : Nat → Int32} {B : zBt} {w : Nat → Int64} {p : Nat × Nat} {Q : zR → zH → Prop} {a0 : Nat} (H : zW zm_216 21 [some (.ref 75), some (.int (Int32.ofNat a0)), some (.int (m 3204)), some (.int (Int32.ofNat 0)), none, none] [] p (zh K (code, (1 : Int32), (0 : Int32), bad, pr, pn, J) (m, pa, pb, pc, vf, vs, B) w) Q) : zT zm_216 [.ref 75, .int (Int32.ofNat a0)] p (zh K (code, rf, rs, bad, pr, pn, J) (m, pa, pb, pc, vf, vs, B) w) Q := by
  change zW zm_216 0 [some (.ref 75), some (.int (Int32.ofNat a0)), none, none, none, none] [] p _ Q
  refine zW_gh 7 [some (.ref 75), some (.int (Int32.ofNat a0)), none, none, none, none] [.int (3204 : Int32), .ref 76] 3 (fun f => rfl) ?_
  refine zW_iald rfl (by decide) rfl (by decide) rfl (by decide) ?_
  refine zW_gh 11 [some (.ref 75), some (.int (Int32.ofNat a0)), some (.int (m 3204)), none, none, none] [.int (1 : Int32), .ref 75] 3 (fun f => rfl) ?_
  refine zW_go (pc' := 14) (L' := [some (.ref 75), some (.int (Int32.ofNat a0)), some (.int (m 3204)), none, none, none]) (st' := []) (h' := (va_up (zh K (code, rf, rs, bad, pr, pn, J) (m, pa, pb, pc, vf, vs, B) w) 75 (.inr (7, zfl (code, (1 : Int32), rs, bad, pr, pn, J))))) 1 (fun f => rfl) ?_
  refine zW_eq zu_75 ?_
  refine zW_gh 16 [some (.ref 75), some (.int (Int32.ofNat a0)), some (.int (m 3204)), none, none, none] [.int (0 : Int32), .ref 75] 2 (fun f => rfl) ?_
  refine zW_go (pc' := 19) (L' := [some (.ref 75), some (.int (Int32.ofNat a0)), some (.int (m 3204)), none, none, none]) (st' := []) (h' := (va_up (zh K (code, (1 : Int32), rs, bad, pr, pn, J) (m, pa, pb, pc, vf, vs, B) w) 75 (.inr (7, zfl (code, (1 : Int32), (0 : Int32), bad, pr, pn, J))))) 1 (fun f => rfl) ?_
  refine zW_eq zu_75 ?_
  refine zW_gh 21 [some (.ref 75), some (.int (Int32.ofNat a0)), some (.int (m 3204)), some (.int (0 : Int32)), none, none] [] 2 (fun f => rfl) ?_
  exact H
set_option maxRecDepth 20000 in
theorem b216_21 {K : zKt} {code rf rs pr pn : Int32} {bad : Bool} {J : zJt} {m pa pb pc vf vs : Nat → Int32} {B : zBt} {w : Nat → Int64} {p : Nat × Nat} {Q : zR → zH → Prop} {x1 x3 : Nat} {x2 : Int32} (H : (x3 < 2147483648 ∧ (x1 < 2147483648 ∧ ((x1 ≤ x3 → zW zm_216 75 [some (.ref 75), none, some (.int x2), some (.int (Int32.ofNat 0)), none, none] [] p (zh K (code, rf, rs, bad, pr, pn, J) (m, pa, pb, pc, vf, vs, B) w) Q) ∧ (x3 < x1 → (((3208 + (8 * x3)) + (2 * x3)) < 5340 ∧ ((((3208 + (8 * x3)) + (2 * x3)) + 1) < 5340 ∧ zT zm_157 [.ref 75, .int x2, .int (0 : Int32), .int (0 : Int32), .int rf, .int rs, .int (m ((3208 + (8 * x3)) + (2 * x3))), .int (m (((3208 + (8 * x3)) + (2 * x3)) + 1))] p (zh K (code, rf, rs, bad, pr, pn, J) (m, pa, pb, pc, vf, vs, B) w) (zK zm_216 67 [some (.ref 75), some (.int (Int32.ofNat x1)), some (.int x2), some (.int (Int32.ofNat x3)), none, none] [] p Q)))))))) : zW zm_216 21 [some (.ref 75), some (.int (Int32.ofNat x1)), some (.int x2), some (.int (Int32.ofNat x3)), none, none] [] p (zh K (code, rf, rs, bad, pr, pn, J) (m, pa, pb, pc, vf, vs, B) w) Q := by
  obtain ⟨h1, H⟩ := H
  obtain ⟨h2, H⟩ := H
  refine zW_bh (zcmp .ge (Int32.ofNat x3) (Int32.ofNat x1)) 73 26 [some (.ref 75), some (.int (Int32.ofNat x1)), some (.int x2), some (.int (Int32.ofNat x3)), none, none] [] 3 (fun f => rfl) (fun c => ?_) (fun c => ?_)
  · have c9 : x1 ≤ x3 := (of_decide_eq_true ((zcN_ge (a := x3) (b := x1) rfl rfl h1 h2).symm.trans c))
    replace H := H.1 c9
    refine zW_gh 75 [some (.ref 75), some (.int (Int32.ofNat x1)), some (.int x2), some (.int (0 : Int32)), none, none] [] 2 (fun f => rfl) ?_
    refine zW_fg (L' := [some (.ref 75), none, some (.int x2), some (.int (0 : Int32)), none, none]) (zle_s _ (zle_n _ (zle_s _ (zle_s _ (zle_s _ (zle_s _ zle_nil)))))) ?_
    exact H
  · have c9 : x3 < x1 := (Nat.lt_of_not_le (of_decide_eq_false ((zcN_ge (a := x3) (b := x1) rfl rfl h1 h2).symm.trans c)))
    replace H := H.2 c9
    refine zW_gh 31 [some (.ref 75), some (.int (Int32.ofNat x1)), some (.int x2), some (.int (Int32.ofNat x3)), none, none] [.int (Int32.ofNat x3), .int (Int32.ofNat x3), .int (3204 : Int32)] 3 (fun f => rfl) ?_
    refine zW_cl rfl rfl rfl rfl rfl (s151 ?_)
    change zW zm_216 34 [some (.ref 75), some (.int (Int32.ofNat x1)), some (.int x2), some (.int (Int32.ofNat x3)), none, none] [.int (((3208 : Int32) + ((8 : Int32) * (Int32.ofNat x3))) + ((2 : Int32) * (Int32.ofNat x3)))] p _ Q
    refine zW_gh 36 [some (.ref 75), some (.int (Int32.ofNat x1)), some (.int x2), some (.int (Int32.ofNat x3)), some (.int (((3208 : Int32) + ((8 : Int32) * (Int32.ofNat x3))) + ((2 : Int32) * (Int32.ofNat x3)))), none] [] 1 (fun f => rfl) ?_
    rw [show (((3208 : Int32) + ((8 : Int32) * (Int32.ofNat x3))) + ((2 : Int32) * (Int32.ofNat x3))) = Int32.ofNat ((3208 + (8 * x3)) + (2 * x3)) from (zN_a (zN_a rfl (zN_m rfl rfl)) (zN_m rfl rfl))]
    refine zW_gh 49 [some (.ref 75), some (.int (Int32.ofNat x1)), some (.int x2), some (.int (Int32.ofNat x3)), some (.int (Int32.ofNat ((3208 + (8 * x3)) + (2 * x3)))), none] [.ref 75, .int rs, .int rf, .int (0 : Int32), .int (0 : Int32), .int x2, .ref 75] 9 (fun f => rfl) ?_
    refine zW_gh 54 [some (.ref 75), some (.int (Int32.ofNat x1)), some (.int x2), some (.int (Int32.ofNat x3)), some (.int (Int32.ofNat ((3208 + (8 * x3)) + (2 * x3)))), none] [.int (Int32.ofNat ((3208 + (8 * x3)) + (2 * x3))), .ref 76, .int rs, .int rf, .int (0 : Int32), .int (0 : Int32), .int x2, .ref 75] 2 (fun f => rfl) ?_
    obtain ⟨h3, H⟩ := H
    refine zW_iald rfl (by decide) rfl (by decide) rfl h3 ?_
    refine zW_gh 63 [some (.ref 75), some (.int (Int32.ofNat x1)), some (.int x2), some (.int (Int32.ofNat x3)), some (.int (Int32.ofNat ((3208 + (8 * x3)) + (2 * x3)))), none] [.int ((Int32.ofNat ((3208 + (8 * x3)) + (2 * x3))) + (1 : Int32)), .ref 76, .int (m ((3208 + (8 * x3)) + (2 * x3))), .int rs, .int rf, .int (0 : Int32), .int (0 : Int32), .int x2, .ref 75] 5 (fun f => rfl) ?_
    obtain ⟨h4, H⟩ := H
    refine zW_iald rfl (by decide) rfl (by decide) (zN_a rfl rfl) h4 ?_
    refine zW_fg (L' := [some (.ref 75), some (.int (Int32.ofNat x1)), some (.int x2), some (.int (Int32.ofNat x3)), none, none]) (zle_s _ (zle_s _ (zle_s _ (zle_s _ (zle_n _ (zle_s _ zle_nil)))))) ?_
    exact zW_cl rfl rfl rfl rfl rfl H
set_option maxRecDepth 20000 in
theorem b216_75 {K : zKt} {code rf rs pr pn : Int32} {bad : Bool} {J : zJt} {m pa pb pc vf vs : Nat → Int32} {B : zBt} {w : Nat → Int64} {p : Nat × Nat} {Q : zR → zH → Prop} {x3 : Nat} {x2 : Int32} (H : (((m 3207) ≤ (Int32.ofNat x3) → Q (.inl none) (zh K (code, rf, rs, bad, pr, pn, J) (m, pa, pb, pc, vf, vs, B) w)) ∧ (¬ (m 3207) ≤ (Int32.ofNat x3) → ((3272 + (5 * x3)) < 5340 ∧ ((¬ (m (3272 + (5 * x3))) = (0 : Int32) → ((¬ (m (3272 + (5 * x3))) = (2 : Int32) → zW zm_216 75 [some (.ref 75), none, some (.int x2), some (.int (Int32.ofNat (x3 + 1))), none, none] [] p (zh K (code, rf, rs, bad, pr, pn, J) (m, pa, pb, pc, vf, vs, B) w) Q) ∧ ((m (3272 + (5 * x3))) = (2 : Int32) → ((x2 ≤ (1 : Int32) → (((3272 + (5 * x3)) + 3) < 5340 ∧ (((3272 + (5 * x3)) + 4) < 5340 ∧ zT zm_157 [.ref 75, .int x2, .int (0 : Int32), .int (0 : Int32), .int (m ((3272 + (5 * x3)) + 3)), .int (-(m ((3272 + (5 * x3)) + 4))), .int rf, .int rs] p (zh K (code, rf, rs, bad, pr, pn, J) (m, pa, pb, pc, vf, vs, B) w) (zK zm_216 192 [some (.ref 75), none, some (.int x2), some (.int (Int32.ofNat x3)), none, none] [] p Q)))) ∧ (¬ x2 ≤ (1 : Int32) → (((3272 + (5 * x3)) + 3) < 5340 ∧ zT zm_194 [.int (m ((3272 + (5 * x3)) + 3)), .int x2] p (zh K (code, rf, rs, bad, pr, pn, J) (m, pa, pb, pc, vf, vs, B) w) (zK zm_216 151 [some (.ref 75), none, some (.int x2), some (.int (Int32.ofNat x3)), some (.int (Int32.ofNat (3272 + (5 * x3)))), none] [] p Q))))))) ∧ ((m (3272 + (5 * x3))) = (0 : Int32) → zT zm_195 [.ref 75, .int x2, .int rf, .int rs] p (zh K (code, rf, rs, bad, pr, pn, J) (m, pa, pb, pc, vf, vs, B) w) (zK zm_216 119 [some (.ref 75), none, some (.int x2), some (.int (Int32.ofNat x3)), none, none] [] p Q))))))) : zW zm_216 75 [some (.ref 75), none, some (.int x2), some (.int (Int32.ofNat x3)), none, none] [] p (zh K (code, rf, rs, bad, pr, pn, J) (m, pa, pb, pc, vf, vs, B) w) Q := by
  refine zW_gh 83 [some (.ref 75), none, some (.int x2), some (.int (Int32.ofNat x3)), none, none] [.int (3207 : Int32), .ref 76, .int (Int32.ofNat x3)] 4 (fun f => rfl) ?_
  refine zW_iald rfl (by decide) rfl (by decide) rfl (by decide) ?_
  refine zW_bh (zcmp .ge (Int32.ofNat x3) (m 3207)) 198 87 [some (.ref 75), none, some (.int x2), some (.int (Int32.ofNat x3)), none, none] [] 1 (fun f => rfl) (fun c => ?_) (fun c => ?_)
  · have c9 : (m 3207) ≤ (Int32.ofNat x3) := (of_decide_eq_true c)
    replace H := H.1 c9
    exact zW_rh none 1 (fun f => rfl) H
  · have c9 : ¬ (m 3207) ≤ (Int32.ofNat x3) := (of_decide_eq_false c)
    replace H := H.2 c9
    refine zW_gh 96 [some (.ref 75), none, some (.int x2), some (.int (Int32.ofNat x3)), some (.int ((3272 : Int32) + ((5 : Int32) * (Int32.ofNat x3)))), none] [] 6 (fun f => rfl) ?_
    rw [show ((3272 : Int32) + ((5 : Int32) * (Int32.ofNat x3))) = Int32.ofNat (3272 + (5 * x3)) from (zN_a rfl (zN_m rfl rfl))]
    refine zW_gh 102 [some (.ref 75), none, some (.int x2), some (.int (Int32.ofNat x3)), some (.int (Int32.ofNat (3272 + (5 * x3)))), none] [.int (Int32.ofNat (3272 + (5 * x3))), .ref 76] 3 (fun f => rfl) ?_
    obtain ⟨h1, H⟩ := H
    refine zW_iald rfl (by decide) rfl (by decide) rfl h1 ?_
    refine zW_bh (zcmp .ne (m (3272 + (5 * x3))) (0 : Int32)) 122 106 [some (.ref 75), none, some (.int x2), some (.int (Int32.ofNat x3)), some (.int (Int32.ofNat (3272 + (5 * x3)))), none] [] 1 (fun f => rfl) (fun c => ?_) (fun c => ?_)
    · have c9 : ¬ (m (3272 + (5 * x3))) = (0 : Int32) := (by simpa [zcmp] using c)
      replace H := H.1 c9
      refine zW_gh 128 [some (.ref 75), none, some (.int x2), some (.int (Int32.ofNat x3)), some (.int (Int32.ofNat (3272 + (5 * x3)))), none] [.int (Int32.ofNat (3272 + (5 * x3))), .ref 76] 3 (fun f => rfl) ?_
      refine zW_iald rfl (by decide) rfl (by decide) rfl h1 ?_
      refine zW_bh (zcmp .ne (m (3272 + (5 * x3))) (2 : Int32)) 192 133 [some (.ref 75), none, some (.int x2), some (.int (Int32.ofNat x3)), some (.int (Int32.ofNat (3272 + (5 * x3)))), none] [] 2 (fun f => rfl) (fun c => ?_) (fun c => ?_)
      · have c9 : ¬ (m (3272 + (5 * x3))) = (2 : Int32) := (by simpa [zcmp] using c)
        replace H := H.1 c9
        refine zW_inc [some (.ref 75), none, some (.int x2), some (.int ((Int32.ofNat x3) + (1 : Int32))), some (.int (Int32.ofNat (3272 + (5 * x3)))), none] rfl rfl rfl ?_
        rw [show ((Int32.ofNat x3) + (1 : Int32)) = Int32.ofNat (x3 + 1) from (zN_a rfl rfl)]
        refine zW_gh 75 [some (.ref 75), none, some (.int x2), some (.int (Int32.ofNat (x3 + 1))), some (.int (Int32.ofNat (3272 + (5 * x3)))), none] [] 1 (fun f => rfl) ?_
        refine zW_fg (L' := [some (.ref 75), none, some (.int x2), some (.int (Int32.ofNat (x3 + 1))), none, none]) (zle_s _ (zle_s _ (zle_s _ (zle_s _ (zle_n _ (zle_s _ zle_nil)))))) ?_
        exact H
      · have c9 : (m (3272 + (5 * x3))) = (2 : Int32) := (by simpa [zcmp] using c)
        replace H := H.2 c9
        refine zW_bh (zcmp .le x2 (1 : Int32)) 154 138 [some (.ref 75), none, some (.int x2), some (.int (Int32.ofNat x3)), some (.int (Int32.ofNat (3272 + (5 * x3)))), none] [] 3 (fun f => rfl) (fun c => ?_) (fun c => ?_)
        · have c9 : x2 ≤ (1 : Int32) := (of_decide_eq_true c)
          replace H := H.1 c9
          refine zW_gh 162 [some (.ref 75), none, some (.int x2), some (.int (Int32.ofNat x3)), some (.int (Int32.ofNat (3272 + (5 * x3)))), none] [.int ((Int32.ofNat (3272 + (5 * x3))) + (3 : Int32)), .ref 76] 5 (fun f => rfl) ?_
          obtain ⟨h3, H⟩ := H
          refine zW_iald rfl (by decide) rfl (by decide) (zN_a rfl rfl) h3 ?_
          refine zW_gh 177 [some (.ref 75), none, some (.int x2), some (.int (Int32.ofNat x3)), some (.int (Int32.ofNat (3272 + (5 * x3)))), some (.int (m ((3272 + (5 * x3)) + 3)))] [.int (Int32.ofNat (3272 + (5 * x3))), .ref 76, .int (m ((3272 + (5 * x3)) + 3)), .int (0 : Int32), .int (0 : Int32), .int x2, .ref 75] 9 (fun f => rfl) ?_
          refine zW_gh 179 [some (.ref 75), none, some (.int x2), some (.int (Int32.ofNat x3)), some (.int (Int32.ofNat (3272 + (5 * x3)))), some (.int (m ((3272 + (5 * x3)) + 3)))] [.int ((Int32.ofNat (3272 + (5 * x3))) + (4 : Int32)), .ref 76, .int (m ((3272 + (5 * x3)) + 3)), .int (0 : Int32), .int (0 : Int32), .int x2, .ref 75] 2 (fun f => rfl) ?_
          obtain ⟨h4, H⟩ := H
          refine zW_iald rfl (by decide) rfl (by decide) (zN_a rfl rfl) h4 ?_
          refine zW_gh 189 [some (.ref 75), none, some (.int x2), some (.int (Int32.ofNat x3)), some (.int (Int32.ofNat (3272 + (5 * x3)))), some (.int (m ((3272 + (5 * x3)) + 3)))] [.int rs, .int rf, .int (-(m ((3272 + (5 * x3)) + 4))), .int (m ((3272 + (5 * x3)) + 3)), .int (0 : Int32), .int (0 : Int32), .int x2, .ref 75] 5 (fun f => rfl) ?_
          refine zW_fg (L' := [some (.ref 75), none, some (.int x2), some (.int (Int32.ofNat x3)), none, none]) (zle_s _ (zle_s _ (zle_s _ (zle_s _ (zle_n _ (zle_n _ zle_nil)))))) ?_
          exact zW_cl rfl rfl rfl rfl rfl H
        · have c9 : ¬ x2 ≤ (1 : Int32) := (of_decide_eq_false c)
          replace H := H.2 c9
          refine zW_gh 146 [some (.ref 75), none, some (.int x2), some (.int (Int32.ofNat x3)), some (.int (Int32.ofNat (3272 + (5 * x3)))), none] [.int ((Int32.ofNat (3272 + (5 * x3))) + (3 : Int32)), .ref 76] 5 (fun f => rfl) ?_
          obtain ⟨h5, H⟩ := H
          refine zW_iald rfl (by decide) rfl (by decide) (zN_a rfl rfl) h5 ?_
          refine zW_gh 148 [some (.ref 75), none, some (.int x2), some (.int (Int32.ofNat x3)), some (.int (Int32.ofNat (3272 + (5 * x3)))), none] [.int x2, .int (m ((3272 + (5 * x3)) + 3))] 1 (fun f => rfl) ?_
          exact zW_cl rfl rfl rfl rfl rfl H
    · have c9 : (m (3272 + (5 * x3))) = (0 : Int32) := (by simpa [zcmp] using c)
      replace H := H.2 c9
      refine zW_gh 116 [some (.ref 75), none, some (.int x2), some (.int (Int32.ofNat x3)), some (.int (Int32.ofNat (3272 + (5 * x3)))), none] [.int rs, .int rf, .int x2, .ref 75] 6 (fun f => rfl) ?_
      refine zW_fg (L' := [some (.ref 75), none, some (.int x2), some (.int (Int32.ofNat x3)), none, none]) (zle_s _ (zle_s _ (zle_s _ (zle_s _ (zle_n _ (zle_s _ zle_nil)))))) ?_
      exact zW_cl rfl rfl rfl rfl rfl H
set_option maxRecDepth 20000 in
theorem b216_67 {K : zKt} {code rf rs pr pn : Int32} {bad : Bool} {J : zJt} {m pa pb pc vf vs : Nat → Int32} {B : zBt} {w : Nat → Int64} {p : Nat × Nat} {Q : zR → zH → Prop} {x1 x3 : Nat} {x2 : Int32} (H : zW zm_216 21 [some (.ref 75), some (.int (Int32.ofNat x1)), some (.int x2), some (.int (Int32.ofNat (x3 + 1))), none, none] [] p (zh K (code, rf, rs, bad, pr, pn, J) (m, pa, pb, pc, vf, vs, B) w) Q) : zW zm_216 67 [some (.ref 75), some (.int (Int32.ofNat x1)), some (.int x2), some (.int (Int32.ofNat x3)), none, none] [] p (zh K (code, rf, rs, bad, pr, pn, J) (m, pa, pb, pc, vf, vs, B) w) Q := by
  refine zW_inc [some (.ref 75), some (.int (Int32.ofNat x1)), some (.int x2), some (.int ((Int32.ofNat x3) + (1 : Int32))), none, none] rfl rfl rfl ?_
  rw [show ((Int32.ofNat x3) + (1 : Int32)) = Int32.ofNat (x3 + 1) from (zN_a rfl rfl)]
  refine zW_gh 21 [some (.ref 75), some (.int (Int32.ofNat x1)), some (.int x2), some (.int (Int32.ofNat (x3 + 1))), none, none] [] 1 (fun f => rfl) ?_
  exact H
set_option maxRecDepth 20000 in
theorem b216_192 {K : zKt} {code rf rs pr pn : Int32} {bad : Bool} {J : zJt} {m pa pb pc vf vs : Nat → Int32} {B : zBt} {w : Nat → Int64} {p : Nat × Nat} {Q : zR → zH → Prop} {x3 : Nat} {x2 : Int32} (H : zW zm_216 75 [some (.ref 75), none, some (.int x2), some (.int (Int32.ofNat (x3 + 1))), none, none] [] p (zh K (code, rf, rs, bad, pr, pn, J) (m, pa, pb, pc, vf, vs, B) w) Q) : zW zm_216 192 [some (.ref 75), none, some (.int x2), some (.int (Int32.ofNat x3)), none, none] [] p (zh K (code, rf, rs, bad, pr, pn, J) (m, pa, pb, pc, vf, vs, B) w) Q := by
  refine zW_inc [some (.ref 75), none, some (.int x2), some (.int ((Int32.ofNat x3) + (1 : Int32))), none, none] rfl rfl rfl ?_
  rw [show ((Int32.ofNat x3) + (1 : Int32)) = Int32.ofNat (x3 + 1) from (zN_a rfl rfl)]
  refine zW_gh 75 [some (.ref 75), none, some (.int x2), some (.int (Int32.ofNat (x3 + 1))), none, none] [] 1 (fun f => rfl) ?_
  exact H
set_option maxRecDepth 20000 in
theorem b216_151 {K : zKt} {code rf rs pr pn : Int32} {bad : Bool} {J : zJt} {m pa pb pc vf vs : Nat → Int32} {B : zBt} {w : Nat → Int64} {p : Nat × Nat} {Q : zR → zH → Prop} {x3 x4 : Nat} {x2 rv : Int32} (H : ((x4 + 4) < 5340 ∧ zT zm_157 [.ref 75, .int x2, .int (0 : Int32), .int (0 : Int32), .int rv, .int (-(m (x4 + 4))), .int rf, .int rs] p (zh K (code, rf, rs, bad, pr, pn, J) (m, pa, pb, pc, vf, vs, B) w) (zK zm_216 192 [some (.ref 75), none, some (.int x2), some (.int (Int32.ofNat x3)), none, none] [] p Q))) : zW zm_216 151 [some (.ref 75), none, some (.int x2), some (.int (Int32.ofNat x3)), some (.int (Int32.ofNat x4)), none] [.int rv] p (zh K (code, rf, rs, bad, pr, pn, J) (m, pa, pb, pc, vf, vs, B) w) Q := by
  refine zW_gh 175 [some (.ref 75), none, some (.int x2), some (.int (Int32.ofNat x3)), some (.int (Int32.ofNat x4)), some (.int rv)] [.ref 76, .int rv, .int (0 : Int32), .int (0 : Int32), .int x2, .ref 75] 9 (fun f => rfl) ?_
  refine zW_gh 179 [some (.ref 75), none, some (.int x2), some (.int (Int32.ofNat x3)), some (.int (Int32.ofNat x4)), some (.int rv)] [.int ((Int32.ofNat x4) + (4 : Int32)), .ref 76, .int rv, .int (0 : Int32), .int (0 : Int32), .int x2, .ref 75] 3 (fun f => rfl) ?_
  obtain ⟨h1, H⟩ := H
  refine zW_iald rfl (by decide) rfl (by decide) (zN_a rfl rfl) h1 ?_
  refine zW_gh 189 [some (.ref 75), none, some (.int x2), some (.int (Int32.ofNat x3)), some (.int (Int32.ofNat x4)), some (.int rv)] [.int rs, .int rf, .int (-(m (x4 + 4))), .int rv, .int (0 : Int32), .int (0 : Int32), .int x2, .ref 75] 5 (fun f => rfl) ?_
  refine zW_fg (L' := [some (.ref 75), none, some (.int x2), some (.int (Int32.ofNat x3)), none, none]) (zle_s _ (zle_s _ (zle_s _ (zle_s _ (zle_n _ (zle_n _ zle_nil)))))) ?_
  exact zW_cl rfl rfl rfl rfl rfl H
set_option maxRecDepth 20000 in
theorem b216_119 {K : zKt} {code rf rs pr pn : Int32} {bad : Bool} {J : zJt} {m pa pb pc vf vs : Nat → Int32} {B : zBt} {w : Nat → Int64} {p : Nat × Nat} {Q : zR → zH → Prop} {x3 : Nat} {x2 : Int32} (H : zW zm_216 75 [some (.ref 75), none, some (.int x2), some (.int (Int32.ofNat (x3 + 1))), none, none] [] p (zh K (code, rf, rs, bad, pr, pn, J) (m, pa, pb, pc, vf, vs, B) w) Q) : zW zm_216 119 [some (.ref 75), none, some (.int x2), some (.int (Int32.ofNat x3)), none, none] [] p (zh K (code, rf, rs, bad, pr, pn, J) (m, pa, pb, pc, vf, vs, B) w) Q := by
  refine zW_gh 192 [some (.ref 75), none, some (.int x2), some (.int (Int32.ofNat x3)), none, none] [] 1 (fun f => rfl) ?_
  refine zW_inc [some (.ref 75), none, some (.int x2), some (.int ((Int32.ofNat x3) + (1 : Int32))), none, none] rfl rfl rfl ?_
  rw [show ((Int32.ofNat x3) + (1 : Int32)) = Int32.ofNat (x3 + 1) from (zN_a rfl rfl)]
  refine zW_gh 75 [some (.ref 75), none, some (.int x2), some (.int (Int32.ofNat (x3 + 1))), none, none] [] 1 (fun f => rfl) ?_
  exact H
theorem b215 {K : zKt} {code rf rs pr pn : Int32} {bad : Bool} {J : zJt} {m pa pb pc vf vs : Nat → Int32} {B : zBt} {w : Nat → Int64} {p : Nat × Nat} {Q : zR → zH → Prop} {a0 a1 : Int32} (H : zT zm_169 [.ref 75, .int a0] p (zh K (code, rf, rs, bad, pr, pn, J) (m, pa, pb, pc, vf, vs, B) w) (zK zm_215 5 [some (.ref 75), some (.int a0), some (.int a1), none, none, none] [] p Q)) : zT zm_215 [.ref 75, .int a0, .int a1] p (zh K (code, rf, rs, bad, pr, pn, J) (m, pa, pb, pc, vf, vs, B) w) Q := by
  change zW zm_215 0 [some (.ref 75), some (.int a0), some (.int a1), none, none, none] [] p _ Q
  refine zW_gh 2 [some (.ref 75), some (.int a0), some (.int a1), none, none, none] [.int a0, .ref 75] 2 (fun f => rfl) ?_
  exact zW_cl rfl rfl rfl rfl rfl H
theorem b215_5 {K : zKt} {code rf rs pr pn : Int32} {bad : Bool} {J : zJt} {m pa pb pc vf vs : Nat → Int32} {B : zBt} {w : Nat → Int64} {p : Nat × Nat} {Q : zR → zH → Prop} {x1 x2 rv : Int32} (H : ((rv ≤ (0 : Int32) → (∃ j1, (((1068 : Int32) * x1) + (1 : Int32)) = Int32.ofNat j1 ∧ (j1 < 5340 ∧ (∃ j3, (((1068 : Int32) * x1) + (2 : Int32)) = Int32.ofNat j3 ∧ (j3 < 5340 ∧ (((m j1) = (m j3) → (((zin ((x2).toInt64) (0 : Int64) (1 : Int64)) = true → ∀ k_x2, 0 ≤ k_x2 ∧ k_x2 ≤ 1 → x2 = Int32.ofNat k_x2 → zT zm_173 [.ref 75, .int x1] p (zh K (code, rf, rs, bad, pr, pn, J) (m, pa, pb, pc, vf, vs, B) w) (zK zm_215 74 [some (.ref 75), none, some (.int (Int32.ofNat k_x2)), none, some (.int (m j1)), none] [] p Q)) ∧ ((zin ((x2).toInt64) (0 : Int64) (1 : Int64)) = false → Q (.inl (some (.int (0 : Int32)))) (zh K ((3 : Int32), rf, rs, bad, pr, pn, J) (m, pa, pb, pc, vf, vs, B) w)))) ∧ (¬ (m j1) = (m j3) → Q (.inl (some (.int (0 : Int32)))) (zh K ((2 : Int32), rf, rs, bad, pr, pn, J) (m, pa, pb, pc, vf, vs, B) w)))))))) ∧ (¬ rv ≤ (0 : Int32) → Q (.inl (some (.int (0 : Int32)))) (zh K (rv, rf, rs, bad, pr, pn, J) (m, pa, pb, pc, vf, vs, B) w)))) : zW zm_215 5 [some (.ref 75), some (.int x1), some (.int x2), none, none, none] [.int rv] p (zh K (code, rf, rs, bad, pr, pn, J) (m, pa, pb, pc, vf, vs, B) w) Q := by
  refine zW_bh (zcmp .le rv (0 : Int32)) 16 10 [some (.ref 75), some (.int x1), some (.int x2), some (.int rv), none, none] [] 3 (fun f => rfl) (fun c => ?_) (fun c => ?_)
  · have c9 : rv ≤ (0 : Int32) := (of_decide_eq_true c)
    replace H := H.1 c9
    refine zW_gh 27 [some (.ref 75), some (.int x1), some (.int x2), some (.int rv), none, none] [.int (((1068 : Int32) * x1) + (1 : Int32)), .ref 76] 7 (fun f => rfl) ?_
    obtain ⟨j1, e_j1, H⟩ := H
    obtain ⟨h2, H⟩ := H
    refine zW_iald rfl (by decide) rfl (by decide) e_j1 h2 ?_
    refine zW_gh 43 [some (.ref 75), some (.int x1), some (.int x2), some (.int rv), some (.int (m j1)), none] [.int (((1068 : Int32) * x1) + (2 : Int32)), .ref 76, .int (m j1)] 9 (fun f => rfl) ?_
    obtain ⟨j3, e_j3, H⟩ := H
    obtain ⟨h4, H⟩ := H
    refine zW_iald rfl (by decide) rfl (by decide) e_j3 h4 ?_
    refine zW_bh (zcmp .eq (m j1) (m j3)) 53 47 [some (.ref 75), some (.int x1), some (.int x2), some (.int rv), some (.int (m j1)), none] [] 1 (fun f => rfl) (fun c => ?_) (fun c => ?_)
    · have c9 : (m j1) = (m j3) := (of_decide_eq_true c)
      replace H := H.1 c9
      refine zW_gh 57 [some (.ref 75), some (.int x1), some (.int x2), some (.int rv), some (.int (m j1)), none] [.long (1 : Int64), .long (0 : Int64), .long ((x2).toInt64)] 4 (fun f => rfl) ?_
      refine zW_cl rfl rfl rfl rfl rfl (s141 ?_)
      change zW zm_215 60 [some (.ref 75), some (.int x1), some (.int x2), some (.int rv), some (.int (m j1)), none] [.int (zbi (zin ((x2).toInt64) (0 : Int64) (1 : Int64)))] p _ Q
      refine zW_bh (zcmp .ne (zbi (zin ((x2).toInt64) (0 : Int64) (1 : Int64))) (0 : Int32)) 69 63 [some (.ref 75), some (.int x1), some (.int x2), some (.int rv), some (.int (m j1)), none] [] 1 (fun f => rfl) (fun c => ?_) (fun c => ?_)
      · have c9 : (zin ((x2).toInt64) (0 : Int64) (1 : Int64)) = true := ((zcB_ne _).symm.trans c)
        replace H := H.1 c9
        obtain ⟨k_x2, h_k_x2, e_k_x2⟩ := zin_k (l := 0) (h := 1) (by decide) (by decide) c9
        replace H := H k_x2 h_k_x2 e_k_x2
        subst e_k_x2
        refine zW_gh 71 [some (.ref 75), some (.int x1), some (.int (Int32.ofNat k_x2)), some (.int rv), some (.int (m j1)), none] [.int x1, .ref 75] 2 (fun f => rfl) ?_
        refine zW_fg (L' := [some (.ref 75), none, some (.int (Int32.ofNat k_x2)), none, some (.int (m j1)), none]) (zle_s _ (zle_n _ (zle_s _ (zle_n _ (zle_s _ (zle_s _ zle_nil)))))) ?_
        exact zW_cl rfl rfl rfl rfl rfl H
      · have c9 : (zin ((x2).toInt64) (0 : Int64) (1 : Int64)) = false := ((zcB_ne _).symm.trans c)
        replace H := H.2 c9
        refine zW_gh 65 [some (.ref 75), some (.int x1), some (.int x2), some (.int rv), some (.int (m j1)), none] [.int (3 : Int32), .ref 75] 2 (fun f => rfl) ?_
        refine zW_cl rfl rfl rfl rfl rfl (s142 ?_)
        change zW zm_215 68 [some (.ref 75), some (.int x1), some (.int x2), some (.int rv), some (.int (m j1)), none] [.int (0 : Int32)] p _ Q
        exact zW_rh (some (.int (0 : Int32))) 1 (fun f => rfl) H
    · have c9 : ¬ (m j1) = (m j3) := (of_decide_eq_false c)
      replace H := H.2 c9
      refine zW_gh 49 [some (.ref 75), some (.int x1), some (.int x2), some (.int rv), some (.int (m j1)), none] [.int (2 : Int32), .ref 75] 2 (fun f => rfl) ?_
      refine zW_cl rfl rfl rfl rfl rfl (s142 ?_)
      change zW zm_215 52 [some (.ref 75), some (.int x1), some (.int x2), some (.int rv), some (.int (m j1)), none] [.int (0 : Int32)] p _ Q
      exact zW_rh (some (.int (0 : Int32))) 1 (fun f => rfl) H
  · have c9 : ¬ rv ≤ (0 : Int32) := (of_decide_eq_false c)
    replace H := H.2 c9
    refine zW_gh 12 [some (.ref 75), some (.int x1), some (.int x2), some (.int rv), none, none] [.int rv, .ref 75] 2 (fun f => rfl) ?_
    refine zW_cl rfl rfl rfl rfl rfl (s142 ?_)
    change zW zm_215 15 [some (.ref 75), some (.int x1), some (.int x2), some (.int rv), none, none] [.int (0 : Int32)] p _ Q
    exact zW_rh (some (.int (0 : Int32))) 1 (fun f => rfl) H
theorem b215_74 {K : zKt} {code rf rs pr pn : Int32} {bad : Bool} {J : zJt} {m pa pb pc vf vs : Nat → Int32} {B : zBt} {w : Nat → Int64} {p : Nat × Nat} {Q : zR → zH → Prop} {x2 : Nat} {x4 : Int32} (H : zT zm_146 [.ref 75, .int (3204 : Int32)] p (zh K (code, rf, rs, bad, pr, pn, J) (m, pa, pb, pc, vf, vs, B) w) (zK zm_215 81 [some (.ref 75), none, some (.int (Int32.ofNat x2)), none, some (.int x4), none] [] p Q)) : zW zm_215 74 [some (.ref 75), none, some (.int (Int32.ofNat x2)), none, some (.int x4), none] [] p (zh K (code, rf, rs, bad, pr, pn, J) (m, pa, pb, pc, vf, vs, B) w) Q := by
  refine zW_gh 78 [some (.ref 75), none, some (.int (Int32.ofNat x2)), none, some (.int x4), none] [.int (3204 : Int32), .ref 75] 2 (fun f => rfl) ?_
  exact zW_cl rfl rfl rfl rfl rfl H
theorem b215_81 {K : zKt} {code rf rs pr pn : Int32} {bad : Bool} {J : zJt} {m pa pb pc vf vs : Nat → Int32} {B : zBt} {w : Nat → Int64} {p : Nat × Nat} {Q : zR → zH → Prop} {x2 : Nat} {x4 : Int32} (H : zT zm_184 [.ref 75, .int (3204 : Int32)] p (zh K (code, rf, rs, bad, pr, pn, J) (m, pa, pb, pc, vf, vs, B) w) (zK zm_215 88 [some (.ref 75), none, some (.int (Int32.ofNat x2)), none, some (.int x4), none] [] p Q)) : zW zm_215 81 [some (.ref 75), none, some (.int (Int32.ofNat x2)), none, some (.int x4), none] [] p (zh K (code, rf, rs, bad, pr, pn, J) (m, pa, pb, pc, vf, vs, B) w) Q := by
  refine zW_gh 85 [some (.ref 75), none, some (.int (Int32.ofNat x2)), none, some (.int x4), none] [.int (3204 : Int32), .ref 75] 2 (fun f => rfl) ?_
  exact zW_cl rfl rfl rfl rfl rfl H
theorem b215_88 {K : zKt} {code rf rs pr pn : Int32} {bad : Bool} {J : zJt} {m pa pb pc vf vs : Nat → Int32} {B : zBt} {w : Nat → Int64} {p : Nat × Nat} {Q : zR → zH → Prop} {x2 : Nat} {x4 rv : Int32} (H : ((bad = false → ((x4 ≤ rv → zT zm_216 [.ref 75, .int x4] p (zh K (code, rf, rs, bad, pr, pn, J) (m, pa, pb, pc, vf, vs, B) w) (zK zm_215 118 [some (.ref 75), none, some (.int (Int32.ofNat x2)), none, none, none] [] p Q)) ∧ (¬ x4 ≤ rv → Q (.inl (some (.int (0 : Int32)))) (zh K (code, rf, rs, bad, pr, pn, J) (m, pa, pb, pc, vf, vs, B) w)))) ∧ (bad = true → Q (.inl (some (.int (0 : Int32)))) (zh K ((4 : Int32), rf, rs, bad, pr, pn, J) (m, pa, pb, pc, vf, vs, B) w)))) : zW zm_215 88 [some (.ref 75), none, some (.int (Int32.ofNat x2)), none, some (.int x4), none] [.int rv] p (zh K (code, rf, rs, bad, pr, pn, J) (m, pa, pb, pc, vf, vs, B) w) Q := by
  refine zW_bh (zcmp .eq (zbi bad) (0 : Int32)) 103 97 [some (.ref 75), none, some (.int (Int32.ofNat x2)), none, some (.int x4), some (.int rv)] [] 4 (fun f => rfl) (fun c => ?_) (fun c => ?_)
  · have c9 : bad = false := ((Bool.not_eq_true' _).mp ((zcB_eq _).symm.trans c))
    replace H := H.1 c9
    refine zW_bh (zcmp .ge rv x4) 112 110 [some (.ref 75), none, some (.int (Int32.ofNat x2)), none, some (.int x4), some (.int rv)] [] 3 (fun f => rfl) (fun c => ?_) (fun c => ?_)
    · have c9 : x4 ≤ rv := (of_decide_eq_true c)
      replace H := H.1 c9
      refine zW_gh 115 [some (.ref 75), none, some (.int (Int32.ofNat x2)), none, some (.int x4), some (.int rv)] [.int x4, .ref 75] 2 (fun f => rfl) ?_
      refine zW_fg (L' := [some (.ref 75), none, some (.int (Int32.ofNat x2)), none, none, none]) (zle_s _ (zle_s _ (zle_s _ (zle_s _ (zle_n _ (zle_n _ zle_nil)))))) ?_
      exact zW_cl rfl rfl rfl rfl rfl H
    · have c9 : ¬ x4 ≤ rv := (of_decide_eq_false c)
      replace H := H.2 c9
      refine zW_gh 111 [some (.ref 75), none, some (.int (Int32.ofNat x2)), none, some (.int x4), some (.int rv)] [.int (0 : Int32)] 1 (fun f => rfl) ?_
      exact zW_rh (some (.int (0 : Int32))) 1 (fun f => rfl) H
  · have c9 : bad = true := ((Bool.not_eq_false' _).mp ((zcB_eq _).symm.trans c))
    replace H := H.2 c9
    refine zW_gh 99 [some (.ref 75), none, some (.int (Int32.ofNat x2)), none, some (.int x4), some (.int rv)] [.int (4 : Int32), .ref 75] 2 (fun f => rfl) ?_
    refine zW_cl rfl rfl rfl rfl rfl (s142 ?_)
    change zW zm_215 102 [some (.ref 75), none, some (.int (Int32.ofNat x2)), none, some (.int x4), some (.int rv)] [.int (0 : Int32)] p _ Q
    exact zW_rh (some (.int (0 : Int32))) 1 (fun f => rfl) H
theorem b215_118 {K : zKt} {code rf rs pr pn : Int32} {bad : Bool} {J : zJt} {m pa pb pc vf vs : Nat → Int32} {B : zBt} {w : Nat → Int64} {p : Nat × Nat} {Q : zR → zH → Prop} {x2 : Nat} (H : ((bad = false → (x2 < 2147483648 ∧ ((¬ x2 = 0 → Q (.inl (some (.int rs))) (zh K (code, rf, rs, bad, pr, pn, J) (m, pa, pb, pc, vf, vs, B) w)) ∧ (x2 = 0 → Q (.inl (some (.int rf))) (zh K (code, rf, rs, bad, pr, pn, J) (m, pa, pb, pc, vf, vs, B) w))))) ∧ (bad = true → Q (.inl (some (.int (0 : Int32)))) (zh K ((4 : Int32), rf, rs, bad, pr, pn, J) (m, pa, pb, pc, vf, vs, B) w)))) : zW zm_215 118 [some (.ref 75), none, some (.int (Int32.ofNat x2)), none, none, none] [] p (zh K (code, rf, rs, bad, pr, pn, J) (m, pa, pb, pc, vf, vs, B) w) Q := by
  refine zW_bh (zcmp .eq (zbi bad) (0 : Int32)) 133 125 [some (.ref 75), none, some (.int (Int32.ofNat x2)), none, none, none] [] 3 (fun f => rfl) (fun c => ?_) (fun c => ?_)
  · have c9 : bad = false := ((Bool.not_eq_true' _).mp ((zcB_eq _).symm.trans c))
    replace H := H.1 c9
    obtain ⟨h1, H⟩ := H
    refine zW_bh (zcmp .ne (Int32.ofNat x2) (0 : Int32)) 144 137 [some (.ref 75), none, some (.int (Int32.ofNat x2)), none, none, none] [] 2 (fun f => rfl) (fun c => ?_) (fun c => ?_)
    · have c9 : ¬ x2 = 0 := (by have c := (zcN_ne (a := x2) (b := 0) rfl rfl h1 (by decide)).symm.trans c; simpa using c)
      replace H := H.1 c9
      refine zW_gh 148 [some (.ref 75), none, some (.int (Int32.ofNat x2)), none, none, none] [.int rs] 2 (fun f => rfl) ?_
      exact zW_rh (some (.int rs)) 1 (fun f => rfl) H
    · have c9 : x2 = 0 := (by have c := (zcN_ne (a := x2) (b := 0) rfl rfl h1 (by decide)).symm.trans c; simpa using c)
      replace H := H.2 c9
      refine zW_gh 148 [some (.ref 75), none, some (.int (Int32.ofNat x2)), none, none, none] [.int rf] 3 (fun f => rfl) ?_
      exact zW_rh (some (.int rf)) 1 (fun f => rfl) H
  · have c9 : bad = true := ((Bool.not_eq_false' _).mp ((zcB_eq _).symm.trans c))
    replace H := H.2 c9
    refine zW_gh 127 [some (.ref 75), none, some (.int (Int32.ofNat x2)), none, none, none] [.int (4 : Int32), .ref 75] 2 (fun f => rfl) ?_
    refine zW_cl rfl rfl rfl rfl rfl (s142 ?_)
    change zW zm_215 130 [some (.ref 75), none, some (.int (Int32.ofNat x2)), none, none, none] [.int (0 : Int32)] p _ Q
    refine zW_gh 148 [some (.ref 75), none, some (.int (Int32.ofNat x2)), none, none, none] [.int (0 : Int32)] 1 (fun f => rfl) ?_
    exact zW_rh (some (.int (0 : Int32))) 1 (fun f => rfl) H
theorem b218 {K : zKt} {code rf rs pr pn : Int32} {bad : Bool} {J : zJt} {m pa pb pc vf vs : Nat → Int32} {B : zBt} {w : Nat → Int64} {p : Nat × Nat} {Q : zR → zH → Prop} {a0 a1 : Int32} (H : (((zslot a0) = false → Q (.inl (some (.int (1 : Int32)))) (zh K ((0 : Int32), rf, rs, bad, pr, pn, J) (m, pa, pb, pc, vf, vs, B) w)) ∧ ((zslot a0) = true → ∀ k_a0, k_a0 < 3 → a0 = Int32.ofNat k_a0 → (((zslot a1) = true → ∀ k_a1, k_a1 < 3 → a1 = Int32.ofNat k_a1 → (1068 * k_a0 < 5340 ∧ (((decide (m (1068 * k_a0) = -1)) = true → Q (.inl (some (.int (2 : Int32)))) (zh K ((0 : Int32), rf, rs, bad, pr, pn, J) (m, pa, pb, pc, vf, vs, B) w)) ∧ ((decide (m (1068 * k_a0) = -1)) = false → (1068 * k_a1 < 5340 ∧ (((decide (m (1068 * k_a1) = -1)) = false → Q (.inl (some (.int (0 : Int32)))) (zh K ((0 : Int32), rf, rs, bad, pr, pn, J) (m, pa, pb, pc, vf, vs, B) w)) ∧ ((decide (m (1068 * k_a1) = -1)) = true → Q (.inl (some (.int (2 : Int32)))) (zh K ((0 : Int32), rf, rs, bad, pr, pn, J) (m, pa, pb, pc, vf, vs, B) w)))))))) ∧ ((zslot a1) = false → Q (.inl (some (.int (1 : Int32)))) (zh K ((0 : Int32), rf, rs, bad, pr, pn, J) (m, pa, pb, pc, vf, vs, B) w)))))) : zT zm_218 [.ref 75, .int a0, .int a1] p (zh K (code, rf, rs, bad, pr, pn, J) (m, pa, pb, pc, vf, vs, B) w) Q := by
  change zW zm_218 0 [some (.ref 75), some (.int a0), some (.int a1)] [] p _ Q
  refine zW_gh 2 [some (.ref 75), some (.int a0), some (.int a1)] [.int (0 : Int32), .ref 75] 2 (fun f => rfl) ?_
  refine zW_go (pc' := 5) (L' := [some (.ref 75), some (.int a0), some (.int a1)]) (st' := []) (h' := (va_up (zh K (code, rf, rs, bad, pr, pn, J) (m, pa, pb, pc, vf, vs, B) w) 75 (.inr (7, zfl ((0 : Int32), rf, rs, bad, pr, pn, J))))) 1 (fun f => rfl) ?_
  refine zW_eq zu_75 ?_
  refine zW_gh 6 [some (.ref 75), some (.int a0), some (.int a1)] [.int a0] 1 (fun f => rfl) ?_
  refine zW_cl rfl rfl rfl rfl rfl (s140 ?_)
  change zW zm_218 9 [some (.ref 75), some (.int a0), some (.int a1)] [.int (zbi (zslot a0))] p _ Q
  refine zW_bh (zcmp .eq (zbi (zslot a0)) (0 : Int32)) 19 12 [some (.ref 75), some (.int a0), some (.int a1)] [] 1 (fun f => rfl) (fun c => ?_) (fun c => ?_)
  · have c9 : (zslot a0) = false := ((Bool.not_eq_true' _).mp ((zcB_eq _).symm.trans c))
    replace H := H.1 c9
    refine zW_gh 44 [some (.ref 75), some (.int a0), some (.int a1)] [.int (1 : Int32)] 2 (fun f => rfl) ?_
    exact zW_rh (some (.int (1 : Int32))) 1 (fun f => rfl) H
  · have c9 : (zslot a0) = true := ((Bool.not_eq_false' _).mp ((zcB_eq _).symm.trans c))
    replace H := H.2 c9
    obtain ⟨k_a0, h_k_a0, e_k_a0⟩ := zslot_n c9
    replace H := H k_a0 h_k_a0 e_k_a0
    subst e_k_a0
    refine zW_gh 13 [some (.ref 75), some (.int (Int32.ofNat k_a0)), some (.int a1)] [.int a1] 1 (fun f => rfl) ?_
    refine zW_cl rfl rfl rfl rfl rfl (s140 ?_)
    change zW zm_218 16 [some (.ref 75), some (.int (Int32.ofNat k_a0)), some (.int a1)] [.int (zbi (zslot a1))] p _ Q
    refine zW_bh (zcmp .ne (zbi (zslot a1)) (0 : Int32)) 23 19 [some (.ref 75), some (.int (Int32.ofNat k_a0)), some (.int a1)] [] 1 (fun f => rfl) (fun c => ?_) (fun c => ?_)
    · have c9 : (zslot a1) = true := ((zcB_ne _).symm.trans c)
      replace H := H.1 c9
      obtain ⟨k_a1, h_k_a1, e_k_a1⟩ := zslot_n c9
      replace H := H k_a1 h_k_a1 e_k_a1
      subst e_k_a1
      refine zW_gh 25 [some (.ref 75), some (.int (Int32.ofNat k_a0)), some (.int (Int32.ofNat k_a1))] [.int (Int32.ofNat k_a0), .ref 75] 2 (fun f => rfl) ?_
      obtain ⟨h1, H⟩ := H
      refine zW_cl rfl rfl rfl rfl rfl ((s144 rfl) h1 ?_)
      change zW zm_218 28 [some (.ref 75), some (.int (Int32.ofNat k_a0)), some (.int (Int32.ofNat k_a1))] [.int (zbi (decide (m (1068 * k_a0) = -1)))] p _ Q
      refine zW_bh (zcmp .ne (zbi (decide (m (1068 * k_a0) = -1))) (0 : Int32)) 39 31 [some (.ref 75), some (.int (Int32.ofNat k_a0)), some (.int (Int32.ofNat k_a1))] [] 1 (fun f => rfl) (fun c => ?_) (fun c => ?_)
      · have c9 : (decide (m (1068 * k_a0) = -1)) = true := ((zcB_ne _).symm.trans c)
        replace H := H.1 c9
        refine zW_gh 44 [some (.ref 75), some (.int (Int32.ofNat k_a0)), some (.int (Int32.ofNat k_a1))] [.int (2 : Int32)] 2 (fun f => rfl) ?_
        exact zW_rh (some (.int (2 : Int32))) 1 (fun f => rfl) H
      · have c9 : (decide (m (1068 * k_a0) = -1)) = false := ((zcB_ne _).symm.trans c)
        replace H := H.2 c9
        refine zW_gh 33 [some (.ref 75), some (.int (Int32.ofNat k_a0)), some (.int (Int32.ofNat k_a1))] [.int (Int32.ofNat k_a1), .ref 75] 2 (fun f => rfl) ?_
        obtain ⟨h2, H⟩ := H
        refine zW_cl rfl rfl rfl rfl rfl ((s144 rfl) h2 ?_)
        change zW zm_218 36 [some (.ref 75), some (.int (Int32.ofNat k_a0)), some (.int (Int32.ofNat k_a1))] [.int (zbi (decide (m (1068 * k_a1) = -1)))] p _ Q
        refine zW_bh (zcmp .eq (zbi (decide (m (1068 * k_a1) = -1))) (0 : Int32)) 43 39 [some (.ref 75), some (.int (Int32.ofNat k_a0)), some (.int (Int32.ofNat k_a1))] [] 1 (fun f => rfl) (fun c => ?_) (fun c => ?_)
        · have c9 : (decide (m (1068 * k_a1) = -1)) = false := ((Bool.not_eq_true' _).mp ((zcB_eq _).symm.trans c))
          replace H := H.1 c9
          refine zW_gh 44 [some (.ref 75), some (.int (Int32.ofNat k_a0)), some (.int (Int32.ofNat k_a1))] [.int (0 : Int32)] 1 (fun f => rfl) ?_
          exact zW_rh (some (.int (0 : Int32))) 1 (fun f => rfl) H
        · have c9 : (decide (m (1068 * k_a1) = -1)) = true := ((Bool.not_eq_false' _).mp ((zcB_eq _).symm.trans c))
          replace H := H.2 c9
          refine zW_gh 44 [some (.ref 75), some (.int (Int32.ofNat k_a0)), some (.int (Int32.ofNat k_a1))] [.int (2 : Int32)] 2 (fun f => rfl) ?_
          exact zW_rh (some (.int (2 : Int32))) 1 (fun f => rfl) H
    · have c9 : (zslot a1) = false := ((zcB_ne _).symm.trans c)
      replace H := H.2 c9
      refine zW_gh 44 [some (.ref 75), some (.int (Int32.ofNat k_a0)), some (.int a1)] [.int (1 : Int32)] 2 (fun f => rfl) ?_
      exact zW_rh (some (.int (1 : Int32))) 1 (fun f => rfl) H
theorem b220 {K : zKt} {code rf rs pr pn : Int32} {bad : Bool} {J : zJt} {m pa pb pc vf vs : Nat → Int32} {B : zBt} {w : Nat → Int64} {p : Nat × Nat} {Q : zR → zH → Prop} {a0 : Nat} (H : zW zm_220 4 [some (.ref 75), some (.int (Int32.ofNat a0)), some (.int (1 : Int32)), some (.int (Int32.ofNat 0))] [] p (zh K (code, rf, rs, bad, pr, pn, J) (m, pa, pb, pc, vf, vs, B) w) Q) : zT zm_220 [.ref 75, .int (Int32.ofNat a0)] p (zh K (code, rf, rs, bad, pr, pn, J) (m, pa, pb, pc, vf, vs, B) w) Q := by
  change zW zm_220 0 [some (.ref 75), some (.int (Int32.ofNat a0)), none, none] [] p _ Q
  refine zW_gh 4 [some (.ref 75), some (.int (Int32.ofNat a0)), some (.int (1 : Int32)), some (.int (0 : Int32))] [] 4 (fun f => rfl) ?_
  exact H
theorem b220_4 {K : zKt} {code rf rs pr pn : Int32} {bad : Bool} {J : zJt} {m pa pb pc vf vs : Nat → Int32} {B : zBt} {w : Nat → Int64} {p : Nat × Nat} {Q : zR → zH → Prop} {x1 x3 : Nat} {x2 : Bool} (H : (x3 < 2147483648 ∧ ((8 * x1) < 2147483648 ∧ (((8 * x1) ≤ x3 → Q (.inl (some (.int (zbi x2)))) (zh K (code, rf, rs, bad, pr, pn, J) (m, pa, pb, pc, vf, vs, B) w)) ∧ (x3 < (8 * x1) → ((x2 = false → zW zm_220 4 [some (.ref 75), some (.int (Int32.ofNat x1)), some (.int (0 : Int32)), some (.int (Int32.ofNat (x3 + 1)))] [] p (zh K (code, rf, rs, bad, pr, pn, J) (m, pa, pb, pc, vf, vs, B) w) Q) ∧ (x2 = true → ((3208 + x3) < 5340 ∧ ((4276 + x3) < 5340 ∧ ((¬ (m (3208 + x3)) = (m (4276 + x3)) → zW zm_220 4 [some (.ref 75), some (.int (Int32.ofNat x1)), some (.int (0 : Int32)), some (.int (Int32.ofNat (x3 + 1)))] [] p (zh K (code, rf, rs, bad, pr, pn, J) (m, pa, pb, pc, vf, vs, B) w) Q) ∧ ((m (3208 + x3)) = (m (4276 + x3)) → zW zm_220 4 [some (.ref 75), some (.int (Int32.ofNat x1)), some (.int (1 : Int32)), some (.int (Int32.ofNat (x3 + 1)))] [] p (zh K (code, rf, rs, bad, pr, pn, J) (m, pa, pb, pc, vf, vs, B) w) Q))))))))))) : zW zm_220 4 [some (.ref 75), some (.int (Int32.ofNat x1)), some (.int (zbi x2)), some (.int (Int32.ofNat x3))] [] p (zh K (code, rf, rs, bad, pr, pn, J) (m, pa, pb, pc, vf, vs, B) w) Q := by
  obtain ⟨h1, H⟩ := H
  obtain ⟨h2, H⟩ := H
  refine zW_bh (zcmp .ge (Int32.ofNat x3) ((8 : Int32) * (Int32.ofNat x1))) 51 12 [some (.ref 75), some (.int (Int32.ofNat x1)), some (.int (zbi x2)), some (.int (Int32.ofNat x3))] [] 5 (fun f => rfl) (fun c => ?_) (fun c => ?_)
  · have c9 : (8 * x1) ≤ x3 := (of_decide_eq_true ((zcN_ge (a := x3) (b := (8 * x1)) rfl (zN_m rfl rfl) h1 h2).symm.trans c))
    replace H := H.1 c9
    refine zW_gh 52 [some (.ref 75), some (.int (Int32.ofNat x1)), some (.int (zbi x2)), some (.int (Int32.ofNat x3))] [.int (zbi x2)] 1 (fun f => rfl) ?_
    exact zW_rh (some (.int (zbi x2))) 1 (fun f => by generalize x2 = bb; cases bb <;> rfl) H
  · have c9 : x3 < (8 * x1) := (Nat.lt_of_not_le (of_decide_eq_false ((zcN_ge (a := x3) (b := (8 * x1)) rfl (zN_m rfl rfl) h1 h2).symm.trans c)))
    replace H := H.2 c9
    refine zW_bh (zcmp .eq (zbi x2) (0 : Int32)) 43 16 [some (.ref 75), some (.int (Int32.ofNat x1)), some (.int (zbi x2)), some (.int (Int32.ofNat x3))] [] 2 (fun f => rfl) (fun c => ?_) (fun c => ?_)
    · have c9 : x2 = false := ((Bool.not_eq_true' _).mp ((zcB_eq _).symm.trans c))
      replace H := H.1 c9
      refine zW_gh 45 [some (.ref 75), some (.int (Int32.ofNat x1)), some (.int (0 : Int32)), some (.int (Int32.ofNat x3))] [] 2 (fun f => rfl) ?_
      refine zW_inc [some (.ref 75), some (.int (Int32.ofNat x1)), some (.int (0 : Int32)), some (.int ((Int32.ofNat x3) + (1 : Int32)))] rfl rfl rfl ?_
      rw [show ((Int32.ofNat x3) + (1 : Int32)) = Int32.ofNat (x3 + 1) from (zN_a rfl rfl)]
      refine zW_gh 4 [some (.ref 75), some (.int (Int32.ofNat x1)), some (.int (0 : Int32)), some (.int (Int32.ofNat (x3 + 1)))] [] 1 (fun f => rfl) ?_
      exact H
    · have c9 : x2 = true := ((Bool.not_eq_false' _).mp ((zcB_eq _).symm.trans c))
      replace H := H.2 c9
      refine zW_gh 25 [some (.ref 75), some (.int (Int32.ofNat x1)), some (.int (zbi x2)), some (.int (Int32.ofNat x3))] [.int ((3208 : Int32) + (Int32.ofNat x3)), .ref 76] 5 (fun f => rfl) ?_
      obtain ⟨h3, H⟩ := H
      refine zW_iald rfl (by decide) rfl (by decide) (zN_a rfl rfl) h3 ?_
      refine zW_gh 35 [some (.ref 75), some (.int (Int32.ofNat x1)), some (.int (zbi x2)), some (.int (Int32.ofNat x3))] [.int ((4276 : Int32) + (Int32.ofNat x3)), .ref 76, .int (m (3208 + x3))] 5 (fun f => rfl) ?_
      obtain ⟨h4, H⟩ := H
      refine zW_iald rfl (by decide) rfl (by decide) (zN_a rfl rfl) h4 ?_
      refine zW_bh (zcmp .ne (m (3208 + x3)) (m (4276 + x3))) 43 39 [some (.ref 75), some (.int (Int32.ofNat x1)), some (.int (zbi x2)), some (.int (Int32.ofNat x3))] [] 1 (fun f => rfl) (fun c => ?_) (fun c => ?_)
      · have c9 : ¬ (m (3208 + x3)) = (m (4276 + x3)) := (by simpa [zcmp] using c)
        replace H := H.1 c9
        refine zW_gh 45 [some (.ref 75), some (.int (Int32.ofNat x1)), some (.int (0 : Int32)), some (.int (Int32.ofNat x3))] [] 2 (fun f => rfl) ?_
        refine zW_inc [some (.ref 75), some (.int (Int32.ofNat x1)), some (.int (0 : Int32)), some (.int ((Int32.ofNat x3) + (1 : Int32)))] rfl rfl rfl ?_
        rw [show ((Int32.ofNat x3) + (1 : Int32)) = Int32.ofNat (x3 + 1) from (zN_a rfl rfl)]
        refine zW_gh 4 [some (.ref 75), some (.int (Int32.ofNat x1)), some (.int (0 : Int32)), some (.int (Int32.ofNat (x3 + 1)))] [] 1 (fun f => rfl) ?_
        exact H
      · have c9 : (m (3208 + x3)) = (m (4276 + x3)) := (by simpa [zcmp] using c)
        replace H := H.2 c9
        refine zW_gh 45 [some (.ref 75), some (.int (Int32.ofNat x1)), some (.int (1 : Int32)), some (.int (Int32.ofNat x3))] [] 3 (fun f => rfl) ?_
        refine zW_inc [some (.ref 75), some (.int (Int32.ofNat x1)), some (.int (1 : Int32)), some (.int ((Int32.ofNat x3) + (1 : Int32)))] rfl rfl rfl ?_
        rw [show ((Int32.ofNat x3) + (1 : Int32)) = Int32.ofNat (x3 + 1) from (zN_a rfl rfl)]
        refine zW_gh 4 [some (.ref 75), some (.int (Int32.ofNat x1)), some (.int (1 : Int32)), some (.int (Int32.ofNat (x3 + 1)))] [] 1 (fun f => rfl) ?_
        exact H
theorem b217 {K : zKt} {code rf rs pr pn : Int32} {bad : Bool} {J : zJt} {m pa pb pc vf vs : Nat → Int32} {B : zBt} {w : Nat → Int64} {p : Nat × Nat} {Q : zR → zH → Prop} {a0 a1 : Int32} (H : zT zm_218 [.ref 75, .int a0, .int a1] p (zh K (code, rf, rs, bad, pr, pn, J) (m, pa, pb, pc, vf, vs, B) w) (zK zm_217 6 [some (.ref 75), some (.int a0), some (.int a1), none, none, none] [] p Q)) : zT zm_217 [.ref 75, .int a0, .int a1] p (zh K (code, rf, rs, bad, pr, pn, J) (m, pa, pb, pc, vf, vs, B) w) Q := by
  change zW zm_217 0 [some (.ref 75), some (.int a0), some (.int a1), none, none, none] [] p _ Q
  refine zW_gh 3 [some (.ref 75), some (.int a0), some (.int a1), none, none, none] [.int a1, .int a0, .ref 75] 3 (fun f => rfl) ?_
  exact zW_cl rfl rfl rfl rfl rfl H
theorem b217_6 {K : zKt} {code rf rs pr pn : Int32} {bad : Bool} {J : zJt} {m pa pb pc vf vs : Nat → Int32} {B : zBt} {w : Nat → Int64} {p : Nat × Nat} {Q : zR → zH → Prop} {x1 x2 rv : Int32} (H : (((0 : Int32) < rv → Q (.inl (some (.int (0 : Int32)))) (zh K (rv, rf, rs, bad, pr, pn, J) (m, pa, pb, pc, vf, vs, B) w)) ∧ (¬ (0 : Int32) < rv → (∃ j1, x1 = Int32.ofNat j1 ∧ (∃ j2, x2 = Int32.ofNat j2 ∧ (1068 * j1 + 0 < 5340 ∧ (1068 * j2 + 0 < 5340 ∧ (((decide (m (1068 * j1 + 0) = m (1068 * j2 + 0))) = false → Q (.inl (some (.int (0 : Int32)))) (zh K (rv, rf, rs, bad, pr, pn, J) (m, pa, pb, pc, vf, vs, B) w)) ∧ ((decide (m (1068 * j1 + 0) = m (1068 * j2 + 0))) = true → (1068 * j1 + 2 < 5340 ∧ (1068 * j2 + 2 < 5340 ∧ (((decide (m (1068 * j1 + 2) = m (1068 * j2 + 2))) = true → zT zm_173 [.ref 75, .int x1] p (zh K (code, rf, rs, bad, pr, pn, J) (m, pa, pb, pc, vf, vs, B) w) (zK zm_217 43 [some (.ref 75), none, some (.int x2), none, none, none] [] p Q)) ∧ ((decide (m (1068 * j1 + 2) = m (1068 * j2 + 2))) = false → Q (.inl (some (.int (0 : Int32)))) (zh K (rv, rf, rs, bad, pr, pn, J) (m, pa, pb, pc, vf, vs, B) w)))))))))))))) : zW zm_217 6 [some (.ref 75), some (.int x1), some (.int x2), none, none, none] [.int rv] p (zh K (code, rf, rs, bad, pr, pn, J) (m, pa, pb, pc, vf, vs, B) w) Q := by
  refine zW_bh (zcmp .gt rv (0 : Int32)) 31 11 [some (.ref 75), some (.int x1), some (.int x2), some (.int rv), none, none] [] 3 (fun f => rfl) (fun c => ?_) (fun c => ?_)
  · have c9 : (0 : Int32) < rv := (of_decide_eq_true c)
    replace H := H.1 c9
    refine zW_gh 33 [some (.ref 75), some (.int x1), some (.int x2), some (.int rv), none, none] [.int rv, .ref 75] 2 (fun f => rfl) ?_
    refine zW_go (pc' := 36) (L' := [some (.ref 75), some (.int x1), some (.int x2), some (.int rv), none, none]) (st' := []) (h' := (va_up (zh K (code, rf, rs, bad, pr, pn, J) (m, pa, pb, pc, vf, vs, B) w) 75 (.inr (7, zfl (rv, rf, rs, bad, pr, pn, J))))) 1 (fun f => rfl) ?_
    refine zW_eq zu_75 ?_
    refine zW_gh 37 [some (.ref 75), some (.int x1), some (.int x2), some (.int rv), none, none] [.int (0 : Int32)] 1 (fun f => rfl) ?_
    exact zW_rh (some (.int (0 : Int32))) 1 (fun f => rfl) H
  · have c9 : ¬ (0 : Int32) < rv := (of_decide_eq_false c)
    replace H := H.2 c9
    obtain ⟨j1, e_j1, H⟩ := H
    obtain ⟨j2, e_j2, H⟩ := H
    refine zW_gh 15 [some (.ref 75), some (.int x1), some (.int x2), some (.int rv), none, none] [.int (0 : Int32), .int x2, .int x1, .ref 75] 4 (fun f => rfl) ?_
    obtain ⟨h3, H⟩ := H
    obtain ⟨h4, H⟩ := H
    refine zW_cl rfl rfl rfl rfl rfl ((s219 e_j1 e_j2 rfl) h3 h4 ?_)
    change zW zm_217 18 [some (.ref 75), some (.int x1), some (.int x2), some (.int rv), none, none] [.int (zbi (decide (m (1068 * j1 + 0) = m (1068 * j2 + 0))))] p _ Q
    refine zW_bh (zcmp .eq (zbi (decide (m (1068 * j1 + 0) = m (1068 * j2 + 0)))) (0 : Int32)) 31 21 [some (.ref 75), some (.int x1), some (.int x2), some (.int rv), none, none] [] 1 (fun f => rfl) (fun c => ?_) (fun c => ?_)
    · have c9 : (decide (m (1068 * j1 + 0) = m (1068 * j2 + 0))) = false := ((Bool.not_eq_true' _).mp ((zcB_eq _).symm.trans c))
      replace H := H.1 c9
      refine zW_gh 33 [some (.ref 75), some (.int x1), some (.int x2), some (.int rv), none, none] [.int rv, .ref 75] 2 (fun f => rfl) ?_
      refine zW_go (pc' := 36) (L' := [some (.ref 75), some (.int x1), some (.int x2), some (.int rv), none, none]) (st' := []) (h' := (va_up (zh K (code, rf, rs, bad, pr, pn, J) (m, pa, pb, pc, vf, vs, B) w) 75 (.inr (7, zfl (rv, rf, rs, bad, pr, pn, J))))) 1 (fun f => rfl) ?_
      refine zW_eq zu_75 ?_
      refine zW_gh 37 [some (.ref 75), some (.int x1), some (.int x2), some (.int rv), none, none] [.int (0 : Int32)] 1 (fun f => rfl) ?_
      exact zW_rh (some (.int (0 : Int32))) 1 (fun f => rfl) H
    · have c9 : (decide (m (1068 * j1 + 0) = m (1068 * j2 + 0))) = true := ((Bool.not_eq_false' _).mp ((zcB_eq _).symm.trans c))
      replace H := H.2 c9
      refine zW_gh 25 [some (.ref 75), some (.int x1), some (.int x2), some (.int rv), none, none] [.int (2 : Int32), .int x2, .int x1, .ref 75] 4 (fun f => rfl) ?_
      obtain ⟨h5, H⟩ := H
      obtain ⟨h6, H⟩ := H
      refine zW_cl rfl rfl rfl rfl rfl ((s219 e_j1 e_j2 rfl) h5 h6 ?_)
      change zW zm_217 28 [some (.ref 75), some (.int x1), some (.int x2), some (.int rv), none, none] [.int (zbi (decide (m (1068 * j1 + 2) = m (1068 * j2 + 2))))] p _ Q
      refine zW_bh (zcmp .ne (zbi (decide (m (1068 * j1 + 2) = m (1068 * j2 + 2)))) (0 : Int32)) 38 31 [some (.ref 75), some (.int x1), some (.int x2), some (.int rv), none, none] [] 1 (fun f => rfl) (fun c => ?_) (fun c => ?_)
      · have c9 : (decide (m (1068 * j1 + 2) = m (1068 * j2 + 2))) = true := ((zcB_ne _).symm.trans c)
        replace H := H.1 c9
        refine zW_gh 40 [some (.ref 75), some (.int x1), some (.int x2), some (.int rv), none, none] [.int x1, .ref 75] 2 (fun f => rfl) ?_
        refine zW_fg (L' := [some (.ref 75), none, some (.int x2), none, none, none]) (zle_s _ (zle_n _ (zle_s _ (zle_n _ (zle_s _ (zle_s _ zle_nil)))))) ?_
        exact zW_cl rfl rfl rfl rfl rfl H
      · have c9 : (decide (m (1068 * j1 + 2) = m (1068 * j2 + 2))) = false := ((zcB_ne _).symm.trans c)
        replace H := H.2 c9
        refine zW_gh 33 [some (.ref 75), some (.int x1), some (.int x2), some (.int rv), none, none] [.int rv, .ref 75] 2 (fun f => rfl) ?_
        refine zW_go (pc' := 36) (L' := [some (.ref 75), some (.int x1), some (.int x2), some (.int rv), none, none]) (st' := []) (h' := (va_up (zh K (code, rf, rs, bad, pr, pn, J) (m, pa, pb, pc, vf, vs, B) w) 75 (.inr (7, zfl (rv, rf, rs, bad, pr, pn, J))))) 1 (fun f => rfl) ?_
        refine zW_eq zu_75 ?_
        refine zW_gh 37 [some (.ref 75), some (.int x1), some (.int x2), some (.int rv), none, none] [.int (0 : Int32)] 1 (fun f => rfl) ?_
        exact zW_rh (some (.int (0 : Int32))) 1 (fun f => rfl) H
theorem b217_43 {K : zKt} {code rf rs pr pn : Int32} {bad : Bool} {J : zJt} {m pa pb pc vf vs : Nat → Int32} {B : zBt} {w : Nat → Int64} {p : Nat × Nat} {Q : zR → zH → Prop} {x2 : Int32} (H : zT zm_146 [.ref 75, .int (3204 : Int32)] p (zh K (code, rf, rs, bad, pr, pn, J) (m, pa, pb, pc, vf, vs, B) w) (zK zm_217 50 [some (.ref 75), none, some (.int x2), none, none, none] [] p Q)) : zW zm_217 43 [some (.ref 75), none, some (.int x2), none, none, none] [] p (zh K (code, rf, rs, bad, pr, pn, J) (m, pa, pb, pc, vf, vs, B) w) Q := by
  refine zW_gh 47 [some (.ref 75), none, some (.int x2), none, none, none] [.int (3204 : Int32), .ref 75] 2 (fun f => rfl) ?_
  exact zW_cl rfl rfl rfl rfl rfl H
theorem b217_50 {K : zKt} {code rf rs pr pn : Int32} {bad : Bool} {J : zJt} {m pa pb pc vf vs : Nat → Int32} {B : zBt} {w : Nat → Int64} {p : Nat × Nat} {Q : zR → zH → Prop} {x2 : Int32} (H : zT zm_184 [.ref 75, .int (3204 : Int32)] p (zh K (code, rf, rs, bad, pr, pn, J) (m, pa, pb, pc, vf, vs, B) w) (zK zm_217 57 [some (.ref 75), none, some (.int x2), none, none, none] [] p Q)) : zW zm_217 50 [some (.ref 75), none, some (.int x2), none, none, none] [] p (zh K (code, rf, rs, bad, pr, pn, J) (m, pa, pb, pc, vf, vs, B) w) Q := by
  refine zW_gh 54 [some (.ref 75), none, some (.int x2), none, none, none] [.int (3204 : Int32), .ref 75] 2 (fun f => rfl) ?_
  exact zW_cl rfl rfl rfl rfl rfl H
theorem b217_57 {K : zKt} {code rf rs pr pn : Int32} {bad : Bool} {J : zJt} {m pa pb pc vf vs : Nat → Int32} {B : zBt} {w : Nat → Int64} {p : Nat × Nat} {Q : zR → zH → Prop} {x2 rv : Int32} (H : zT zm_154 [.ref 75, .int ((1068 : Int32) * x2), .int (4272 : Int32)] p (zh K (code, rf, rs, bad, pr, pn, J) (m, pa, pb, pc, vf, vs, B) w) (zK zm_217 71 [some (.ref 75), none, none, none, some (.int rv), none] [] p Q)) : zW zm_217 57 [some (.ref 75), none, some (.int x2), none, none, none] [.int rv] p (zh K (code, rf, rs, bad, pr, pn, J) (m, pa, pb, pc, vf, vs, B) w) Q := by
  refine zW_gh 68 [some (.ref 75), none, some (.int x2), none, some (.int rv), none] [.int (4272 : Int32), .int ((1068 : Int32) * x2), .ref 75] 6 (fun f => rfl) ?_
  refine zW_fg (L' := [some (.ref 75), none, none, none, some (.int rv), none]) (zle_s _ (zle_s _ (zle_n _ (zle_s _ (zle_s _ (zle_s _ zle_nil)))))) ?_
  exact zW_cl rfl rfl rfl rfl rfl H
theorem b217_71 {K : zKt} {code rf rs pr pn : Int32} {bad : Bool} {J : zJt} {m pa pb pc vf vs : Nat → Int32} {B : zBt} {w : Nat → Int64} {p : Nat × Nat} {Q : zR → zH → Prop} {x4 : Int32} (H : zT zm_146 [.ref 75, .int (4272 : Int32)] p (zh K (code, rf, rs, bad, pr, pn, J) (m, pa, pb, pc, vf, vs, B) w) (zK zm_217 78 [some (.ref 75), none, none, none, some (.int x4), none] [] p Q)) : zW zm_217 71 [some (.ref 75), none, none, none, some (.int x4), none] [] p (zh K (code, rf, rs, bad, pr, pn, J) (m, pa, pb, pc, vf, vs, B) w) Q := by
  refine zW_gh 75 [some (.ref 75), none, none, none, some (.int x4), none] [.int (4272 : Int32), .ref 75] 2 (fun f => rfl) ?_
  exact zW_cl rfl rfl rfl rfl rfl H
theorem b217_78 {K : zKt} {code rf rs pr pn : Int32} {bad : Bool} {J : zJt} {m pa pb pc vf vs : Nat → Int32} {B : zBt} {w : Nat → Int64} {p : Nat × Nat} {Q : zR → zH → Prop} {x4 : Int32} (H : ((bad = false → zT zm_184 [.ref 75, .int (4272 : Int32)] p (zh K (code, rf, rs, bad, pr, pn, J) (m, pa, pb, pc, vf, vs, B) w) (zK zm_217 96 [some (.ref 75), none, none, none, some (.int x4), none] [] p Q)) ∧ (bad = true → ((bad = false → ((bad = true → Q (.inl (some (.int (0 : Int32)))) (zh K ((0 : Int32), rf, rs, bad, pr, pn, J) (m, pa, pb, pc, vf, vs, B) w)) ∧ (bad = false → ((¬ x4 = (0 : Int32) → Q (.inl (some (.int (0 : Int32)))) (zh K ((0 : Int32), rf, rs, bad, pr, pn, J) (m, pa, pb, pc, vf, vs, B) w)) ∧ (x4 = (0 : Int32) → zT zm_220 [.ref 75, .int x4] p (zh K ((0 : Int32), rf, rs, bad, pr, pn, J) (m, pa, pb, pc, vf, vs, B) w) (zK zm_217 134 [none, none, none, none, none, none] [] p Q)))))) ∧ (bad = true → ((bad = true → Q (.inl (some (.int (0 : Int32)))) (zh K ((3 : Int32), rf, rs, bad, pr, pn, J) (m, pa, pb, pc, vf, vs, B) w)) ∧ (bad = false → ((¬ x4 = (0 : Int32) → Q (.inl (some (.int (0 : Int32)))) (zh K ((3 : Int32), rf, rs, bad, pr, pn, J) (m, pa, pb, pc, vf, vs, B) w)) ∧ (x4 = (0 : Int32) → zT zm_220 [.ref 75, .int x4] p (zh K ((3 : Int32), rf, rs, bad, pr, pn, J) (m, pa, pb, pc, vf, vs, B) w) (zK zm_217 134 [none, none, none, none, none, none] [] p Q)))))))))) : zW zm_217 78 [some (.ref 75), none, none, none, some (.int x4), none] [] p (zh K (code, rf, rs, bad, pr, pn, J) (m, pa, pb, pc, vf, vs, B) w) Q := by
  refine zW_bh (zcmp .eq (zbi bad) (0 : Int32)) 89 85 [some (.ref 75), none, none, none, some (.int x4), none] [] 3 (fun f => rfl) (fun c => ?_) (fun c => ?_)
  · have c9 : bad = false := ((Bool.not_eq_true' _).mp ((zcB_eq _).symm.trans c))
    replace H := H.1 c9
    refine zW_gh 93 [some (.ref 75), none, none, none, some (.int x4), none] [.int (4272 : Int32), .ref 75] 2 (fun f => rfl) ?_
    exact zW_cl rfl rfl rfl rfl rfl H
  · have c9 : bad = true := ((Bool.not_eq_false' _).mp ((zcB_eq _).symm.trans c))
    replace H := H.2 c9
    refine zW_bh (zcmp .eq (zbi bad) (0 : Int32)) 110 106 [some (.ref 75), none, none, none, some (.int x4), some (.int (0 : Int32))] [.ref 75] 7 (fun f => rfl) (fun c => ?_) (fun c => ?_)
    · have c9 : bad = false := ((Bool.not_eq_true' _).mp ((zcB_eq _).symm.trans c))
      replace H := H.1 c9
      refine zW_gh 111 [some (.ref 75), none, none, none, some (.int x4), some (.int (0 : Int32))] [.int (0 : Int32), .ref 75] 1 (fun f => rfl) ?_
      refine zW_go (pc' := 114) (L' := [some (.ref 75), none, none, none, some (.int x4), some (.int (0 : Int32))]) (st' := []) (h' := (va_up (zh K (code, rf, rs, bad, pr, pn, J) (m, pa, pb, pc, vf, vs, B) w) 75 (.inr (7, zfl ((0 : Int32), rf, rs, bad, pr, pn, J))))) 1 (fun f => rfl) ?_
      refine zW_eq zu_75 ?_
      refine zW_bh (zcmp .ne (zbi bad) (0 : Int32)) 141 121 [some (.ref 75), none, none, none, some (.int x4), some (.int (0 : Int32))] [] 3 (fun f => rfl) (fun c => ?_) (fun c => ?_)
      · have c9 : bad = true := ((zcB_ne _).symm.trans c)
        replace H := H.1 c9
        refine zW_gh 142 [some (.ref 75), none, none, none, some (.int x4), some (.int (0 : Int32))] [.int (0 : Int32)] 1 (fun f => rfl) ?_
        exact zW_rh (some (.int (0 : Int32))) 1 (fun f => rfl) H
      · have c9 : bad = false := ((zcB_ne _).symm.trans c)
        replace H := H.2 c9
        refine zW_bh (zcmp .ne x4 (0 : Int32)) 141 128 [some (.ref 75), none, none, none, some (.int x4), some (.int (0 : Int32))] [] 3 (fun f => rfl) (fun c => ?_) (fun c => ?_)
        · have c9 : ¬ x4 = (0 : Int32) := (by simpa [zcmp] using c)
          replace H := H.1 c9
          refine zW_gh 142 [some (.ref 75), none, none, none, some (.int x4), some (.int (0 : Int32))] [.int (0 : Int32)] 1 (fun f => rfl) ?_
          exact zW_rh (some (.int (0 : Int32))) 1 (fun f => rfl) H
        · have c9 : x4 = (0 : Int32) := (by simpa [zcmp] using c)
          replace H := H.2 c9
          refine zW_gh 131 [some (.ref 75), none, none, none, some (.int x4), some (.int (0 : Int32))] [.int x4, .ref 75] 2 (fun f => rfl) ?_
          refine zW_fg (L' := [none, none, none, none, none, none]) (zle_n _ (zle_s _ (zle_s _ (zle_s _ (zle_n _ (zle_n _ zle_nil)))))) ?_
          exact zW_cl rfl rfl rfl rfl rfl H
    · have c9 : bad = true := ((Bool.not_eq_false' _).mp ((zcB_eq _).symm.trans c))
      replace H := H.2 c9
      refine zW_gh 111 [some (.ref 75), none, none, none, some (.int x4), some (.int (0 : Int32))] [.int (3 : Int32), .ref 75] 2 (fun f => rfl) ?_
      refine zW_go (pc' := 114) (L' := [some (.ref 75), none, none, none, some (.int x4), some (.int (0 : Int32))]) (st' := []) (h' := (va_up (zh K (code, rf, rs, bad, pr, pn, J) (m, pa, pb, pc, vf, vs, B) w) 75 (.inr (7, zfl ((3 : Int32), rf, rs, bad, pr, pn, J))))) 1 (fun f => rfl) ?_
      refine zW_eq zu_75 ?_
      refine zW_bh (zcmp .ne (zbi bad) (0 : Int32)) 141 121 [some (.ref 75), none, none, none, some (.int x4), some (.int (0 : Int32))] [] 3 (fun f => rfl) (fun c => ?_) (fun c => ?_)
      · have c9 : bad = true := ((zcB_ne _).symm.trans c)
        replace H := H.1 c9
        refine zW_gh 142 [some (.ref 75), none, none, none, some (.int x4), some (.int (0 : Int32))] [.int (0 : Int32)] 1 (fun f => rfl) ?_
        exact zW_rh (some (.int (0 : Int32))) 1 (fun f => rfl) H
      · have c9 : bad = false := ((zcB_ne _).symm.trans c)
        replace H := H.2 c9
        refine zW_bh (zcmp .ne x4 (0 : Int32)) 141 128 [some (.ref 75), none, none, none, some (.int x4), some (.int (0 : Int32))] [] 3 (fun f => rfl) (fun c => ?_) (fun c => ?_)
        · have c9 : ¬ x4 = (0 : Int32) := (by simpa [zcmp] using c)
          replace H := H.1 c9
          refine zW_gh 142 [some (.ref 75), none, none, none, some (.int x4), some (.int (0 : Int32))] [.int (0 : Int32)] 1 (fun f => rfl) ?_
          exact zW_rh (some (.int (0 : Int32))) 1 (fun f => rfl) H
        · have c9 : x4 = (0 : Int32) := (by simpa [zcmp] using c)
          replace H := H.2 c9
          refine zW_gh 131 [some (.ref 75), none, none, none, some (.int x4), some (.int (0 : Int32))] [.int x4, .ref 75] 2 (fun f => rfl) ?_
          refine zW_fg (L' := [none, none, none, none, none, none]) (zle_n _ (zle_s _ (zle_s _ (zle_s _ (zle_n _ (zle_n _ zle_nil)))))) ?_
          exact zW_cl rfl rfl rfl rfl rfl H
theorem b217_96 {K : zKt} {code rf rs pr pn : Int32} {bad : Bool} {J : zJt} {m pa pb pc vf vs : Nat → Int32} {B : zBt} {w : Nat → Int64} {p : Nat × Nat} {Q : zR → zH → Prop} {x4 rv : Int32} (H : ((bad = false → ((bad = true → Q (.inl (some (.int (0 : Int32)))) (zh K ((0 : Int32), rf, rs, bad, pr, pn, J) (m, pa, pb, pc, vf, vs, B) w)) ∧ (bad = false → ((¬ x4 = rv → Q (.inl (some (.int (0 : Int32)))) (zh K ((0 : Int32), rf, rs, bad, pr, pn, J) (m, pa, pb, pc, vf, vs, B) w)) ∧ (x4 = rv → zT zm_220 [.ref 75, .int x4] p (zh K ((0 : Int32), rf, rs, bad, pr, pn, J) (m, pa, pb, pc, vf, vs, B) w) (zK zm_217 134 [none, none, none, none, none, none] [] p Q)))))) ∧ (bad = true → ((bad = true → Q (.inl (some (.int (0 : Int32)))) (zh K ((3 : Int32), rf, rs, bad, pr, pn, J) (m, pa, pb, pc, vf, vs, B) w)) ∧ (bad = false → ((¬ x4 = rv → Q (.inl (some (.int (0 : Int32)))) (zh K ((3 : Int32), rf, rs, bad, pr, pn, J) (m, pa, pb, pc, vf, vs, B) w)) ∧ (x4 = rv → zT zm_220 [.ref 75, .int x4] p (zh K ((3 : Int32), rf, rs, bad, pr, pn, J) (m, pa, pb, pc, vf, vs, B) w) (zK zm_217 134 [none, none, none, none, none, none] [] p Q)))))))) : zW zm_217 96 [some (.ref 75), none, none, none, some (.int x4), none] [.int rv] p (zh K (code, rf, rs, bad, pr, pn, J) (m, pa, pb, pc, vf, vs, B) w) Q := by
  refine zW_bh (zcmp .eq (zbi bad) (0 : Int32)) 110 106 [some (.ref 75), none, none, none, some (.int x4), some (.int rv)] [.ref 75] 5 (fun f => rfl) (fun c => ?_) (fun c => ?_)
  · have c9 : bad = false := ((Bool.not_eq_true' _).mp ((zcB_eq _).symm.trans c))
    replace H := H.1 c9
    refine zW_gh 111 [some (.ref 75), none, none, none, some (.int x4), some (.int rv)] [.int (0 : Int32), .ref 75] 1 (fun f => rfl) ?_
    refine zW_go (pc' := 114) (L' := [some (.ref 75), none, none, none, some (.int x4), some (.int rv)]) (st' := []) (h' := (va_up (zh K (code, rf, rs, bad, pr, pn, J) (m, pa, pb, pc, vf, vs, B) w) 75 (.inr (7, zfl ((0 : Int32), rf, rs, bad, pr, pn, J))))) 1 (fun f => rfl) ?_
    refine zW_eq zu_75 ?_
    refine zW_bh (zcmp .ne (zbi bad) (0 : Int32)) 141 121 [some (.ref 75), none, none, none, some (.int x4), some (.int rv)] [] 3 (fun f => rfl) (fun c => ?_) (fun c => ?_)
    · have c9 : bad = true := ((zcB_ne _).symm.trans c)
      replace H := H.1 c9
      refine zW_gh 142 [some (.ref 75), none, none, none, some (.int x4), some (.int rv)] [.int (0 : Int32)] 1 (fun f => rfl) ?_
      exact zW_rh (some (.int (0 : Int32))) 1 (fun f => rfl) H
    · have c9 : bad = false := ((zcB_ne _).symm.trans c)
      replace H := H.2 c9
      refine zW_bh (zcmp .ne x4 rv) 141 128 [some (.ref 75), none, none, none, some (.int x4), some (.int rv)] [] 3 (fun f => rfl) (fun c => ?_) (fun c => ?_)
      · have c9 : ¬ x4 = rv := (by simpa [zcmp] using c)
        replace H := H.1 c9
        refine zW_gh 142 [some (.ref 75), none, none, none, some (.int x4), some (.int rv)] [.int (0 : Int32)] 1 (fun f => rfl) ?_
        exact zW_rh (some (.int (0 : Int32))) 1 (fun f => rfl) H
      · have c9 : x4 = rv := (by simpa [zcmp] using c)
        replace H := H.2 c9
        refine zW_gh 131 [some (.ref 75), none, none, none, some (.int x4), some (.int rv)] [.int x4, .ref 75] 2 (fun f => rfl) ?_
        refine zW_fg (L' := [none, none, none, none, none, none]) (zle_n _ (zle_s _ (zle_s _ (zle_s _ (zle_n _ (zle_n _ zle_nil)))))) ?_
        exact zW_cl rfl rfl rfl rfl rfl H
  · have c9 : bad = true := ((Bool.not_eq_false' _).mp ((zcB_eq _).symm.trans c))
    replace H := H.2 c9
    refine zW_gh 111 [some (.ref 75), none, none, none, some (.int x4), some (.int rv)] [.int (3 : Int32), .ref 75] 2 (fun f => rfl) ?_
    refine zW_go (pc' := 114) (L' := [some (.ref 75), none, none, none, some (.int x4), some (.int rv)]) (st' := []) (h' := (va_up (zh K (code, rf, rs, bad, pr, pn, J) (m, pa, pb, pc, vf, vs, B) w) 75 (.inr (7, zfl ((3 : Int32), rf, rs, bad, pr, pn, J))))) 1 (fun f => rfl) ?_
    refine zW_eq zu_75 ?_
    refine zW_bh (zcmp .ne (zbi bad) (0 : Int32)) 141 121 [some (.ref 75), none, none, none, some (.int x4), some (.int rv)] [] 3 (fun f => rfl) (fun c => ?_) (fun c => ?_)
    · have c9 : bad = true := ((zcB_ne _).symm.trans c)
      replace H := H.1 c9
      refine zW_gh 142 [some (.ref 75), none, none, none, some (.int x4), some (.int rv)] [.int (0 : Int32)] 1 (fun f => rfl) ?_
      exact zW_rh (some (.int (0 : Int32))) 1 (fun f => rfl) H
    · have c9 : bad = false := ((zcB_ne _).symm.trans c)
      replace H := H.2 c9
      refine zW_bh (zcmp .ne x4 rv) 141 128 [some (.ref 75), none, none, none, some (.int x4), some (.int rv)] [] 3 (fun f => rfl) (fun c => ?_) (fun c => ?_)
      · have c9 : ¬ x4 = rv := (by simpa [zcmp] using c)
        replace H := H.1 c9
        refine zW_gh 142 [some (.ref 75), none, none, none, some (.int x4), some (.int rv)] [.int (0 : Int32)] 1 (fun f => rfl) ?_
        exact zW_rh (some (.int (0 : Int32))) 1 (fun f => rfl) H
      · have c9 : x4 = rv := (by simpa [zcmp] using c)
        replace H := H.2 c9
        refine zW_gh 131 [some (.ref 75), none, none, none, some (.int x4), some (.int rv)] [.int x4, .ref 75] 2 (fun f => rfl) ?_
        refine zW_fg (L' := [none, none, none, none, none, none]) (zle_n _ (zle_s _ (zle_s _ (zle_s _ (zle_n _ (zle_n _ zle_nil)))))) ?_
        exact zW_cl rfl rfl rfl rfl rfl H
theorem b217_134 {K : zKt} {code rf rs pr pn : Int32} {bad : Bool} {J : zJt} {m pa pb pc vf vs : Nat → Int32} {B : zBt} {w : Nat → Int64} {p : Nat × Nat} {Q : zR → zH → Prop} {rv : Bool} (H : ((rv = false → Q (.inl (some (.int (0 : Int32)))) (zh K (code, rf, rs, bad, pr, pn, J) (m, pa, pb, pc, vf, vs, B) w)) ∧ (rv = true → Q (.inl (some (.int (1 : Int32)))) (zh K (code, rf, rs, bad, pr, pn, J) (m, pa, pb, pc, vf, vs, B) w)))) : zW zm_217 134 [none, none, none, none, none, none] [.int (zbi rv)] p (zh K (code, rf, rs, bad, pr, pn, J) (m, pa, pb, pc, vf, vs, B) w) Q := by
  refine zW_bh (zcmp .eq (zbi rv) (0 : Int32)) 141 137 [none, none, none, none, none, none] [] 1 (fun f => rfl) (fun c => ?_) (fun c => ?_)
  · have c9 : rv = false := ((Bool.not_eq_true' _).mp ((zcB_eq _).symm.trans c))
    replace H := H.1 c9
    refine zW_gh 142 [none, none, none, none, none, none] [.int (0 : Int32)] 1 (fun f => rfl) ?_
    exact zW_rh (some (.int (0 : Int32))) 1 (fun f => rfl) H
  · have c9 : rv = true := ((Bool.not_eq_false' _).mp ((zcB_eq _).symm.trans c))
    replace H := H.2 c9
    refine zW_gh 142 [none, none, none, none, none, none] [.int (1 : Int32)] 2 (fun f => rfl) ?_
    exact zW_rh (some (.int (1 : Int32))) 1 (fun f => rfl) H
theorem b221 {K : zKt} {code rf rs pr pn : Int32} {bad : Bool} {J : zJt} {m pa pb pc vf vs : Nat → Int32} {B : zBt} {w : Nat → Int64} {p : Nat × Nat} {Q : zR → zH → Prop} {a0 a1 : Int32} (H : zT zm_218 [.ref 75, .int a0, .int a1] p (zh K (code, rf, rs, bad, pr, pn, J) (m, pa, pb, pc, vf, vs, B) w) (zK zm_221 6 [some (.ref 75), some (.int a0), some (.int a1), none, none, none] [] p Q)) : zT zm_221 [.ref 75, .int a0, .int a1] p (zh K (code, rf, rs, bad, pr, pn, J) (m, pa, pb, pc, vf, vs, B) w) Q := by
  change zW zm_221 0 [some (.ref 75), some (.int a0), some (.int a1), none, none, none] [] p _ Q
  refine zW_gh 3 [some (.ref 75), some (.int a0), some (.int a1), none, none, none] [.int a1, .int a0, .ref 75] 3 (fun f => rfl) ?_
  exact zW_cl rfl rfl rfl rfl rfl H
theorem b221_6 {K : zKt} {code rf rs pr pn : Int32} {bad : Bool} {J : zJt} {m pa pb pc vf vs : Nat → Int32} {B : zBt} {w : Nat → Int64} {p : Nat × Nat} {Q : zR → zH → Prop} {x1 x2 rv : Int32} (H : (((0 : Int32) < rv → Q (.inl (some (.int (0 : Int32)))) (zh K (rv, rf, rs, bad, pr, pn, J) (m, pa, pb, pc, vf, vs, B) w)) ∧ (¬ (0 : Int32) < rv → (∃ j1, x1 = Int32.ofNat j1 ∧ (∃ j2, x2 = Int32.ofNat j2 ∧ (1068 * j1 + 0 < 5340 ∧ (1068 * j2 + 0 < 5340 ∧ (((decide (m (1068 * j1 + 0) = m (1068 * j2 + 0))) = false → Q (.inl (some (.int (0 : Int32)))) (zh K (rv, rf, rs, bad, pr, pn, J) (m, pa, pb, pc, vf, vs, B) w)) ∧ ((decide (m (1068 * j1 + 0) = m (1068 * j2 + 0))) = true → (1068 * j1 + 1 < 5340 ∧ (1068 * j2 + 1 < 5340 ∧ (((decide (m (1068 * j1 + 1) = m (1068 * j2 + 1))) = false → Q (.inl (some (.int (0 : Int32)))) (zh K (rv, rf, rs, bad, pr, pn, J) (m, pa, pb, pc, vf, vs, B) w)) ∧ ((decide (m (1068 * j1 + 1) = m (1068 * j2 + 1))) = true → (1068 * j1 + 2 < 5340 ∧ (1068 * j2 + 2 < 5340 ∧ (((decide (m (1068 * j1 + 2) = m (1068 * j2 + 2))) = true → zT zm_208 [.ref 75, .int x1] p (zh K (code, rf, rs, bad, pr, pn, J) (m, pa, pb, pc, vf, vs, B) w) (zK zm_221 53 [some (.ref 75), none, some (.int x2), none, none, none] [] p Q)) ∧ ((decide (m (1068 * j1 + 2) = m (1068 * j2 + 2))) = false → Q (.inl (some (.int (0 : Int32)))) (zh K (rv, rf, rs, bad, pr, pn, J) (m, pa, pb, pc, vf, vs, B) w)))))))))))))))))) : zW zm_221 6 [some (.ref 75), some (.int x1), some (.int x2), none, none, none] [.int rv] p (zh K (code, rf, rs, bad, pr, pn, J) (m, pa, pb, pc, vf, vs, B) w) Q := by
  refine zW_bh (zcmp .gt rv (0 : Int32)) 41 11 [some (.ref 75), some (.int x1), some (.int x2), some (.int rv), none, none] [] 3 (fun f => rfl) (fun c => ?_) (fun c => ?_)
  · have c9 : (0 : Int32) < rv := (of_decide_eq_true c)
    replace H := H.1 c9
    refine zW_gh 43 [some (.ref 75), some (.int x1), some (.int x2), some (.int rv), none, none] [.int rv, .ref 75] 2 (fun f => rfl) ?_
    refine zW_go (pc' := 46) (L' := [some (.ref 75), some (.int x1), some (.int x2), some (.int rv), none, none]) (st' := []) (h' := (va_up (zh K (code, rf, rs, bad, pr, pn, J) (m, pa, pb, pc, vf, vs, B) w) 75 (.inr (7, zfl (rv, rf, rs, bad, pr, pn, J))))) 1 (fun f => rfl) ?_
    refine zW_eq zu_75 ?_
    refine zW_gh 47 [some (.ref 75), some (.int x1), some (.int x2), some (.int rv), none, none] [.int (0 : Int32)] 1 (fun f => rfl) ?_
    exact zW_rh (some (.int (0 : Int32))) 1 (fun f => rfl) H
  · have c9 : ¬ (0 : Int32) < rv := (of_decide_eq_false c)
    replace H := H.2 c9
    obtain ⟨j1, e_j1, H⟩ := H
    obtain ⟨j2, e_j2, H⟩ := H
    refine zW_gh 15 [some (.ref 75), some (.int x1), some (.int x2), some (.int rv), none, none] [.int (0 : Int32), .int x2, .int x1, .ref 75] 4 (fun f => rfl) ?_
    obtain ⟨h3, H⟩ := H
    obtain ⟨h4, H⟩ := H
    refine zW_cl rfl rfl rfl rfl rfl ((s219 e_j1 e_j2 rfl) h3 h4 ?_)
    change zW zm_221 18 [some (.ref 75), some (.int x1), some (.int x2), some (.int rv), none, none] [.int (zbi (decide (m (1068 * j1 + 0) = m (1068 * j2 + 0))))] p _ Q
    refine zW_bh (zcmp .eq (zbi (decide (m (1068 * j1 + 0) = m (1068 * j2 + 0)))) (0 : Int32)) 41 21 [some (.ref 75), some (.int x1), some (.int x2), some (.int rv), none, none] [] 1 (fun f => rfl) (fun c => ?_) (fun c => ?_)
    · have c9 : (decide (m (1068 * j1 + 0) = m (1068 * j2 + 0))) = false := ((Bool.not_eq_true' _).mp ((zcB_eq _).symm.trans c))
      replace H := H.1 c9
      refine zW_gh 43 [some (.ref 75), some (.int x1), some (.int x2), some (.int rv), none, none] [.int rv, .ref 75] 2 (fun f => rfl) ?_
      refine zW_go (pc' := 46) (L' := [some (.ref 75), some (.int x1), some (.int x2), some (.int rv), none, none]) (st' := []) (h' := (va_up (zh K (code, rf, rs, bad, pr, pn, J) (m, pa, pb, pc, vf, vs, B) w) 75 (.inr (7, zfl (rv, rf, rs, bad, pr, pn, J))))) 1 (fun f => rfl) ?_
      refine zW_eq zu_75 ?_
      refine zW_gh 47 [some (.ref 75), some (.int x1), some (.int x2), some (.int rv), none, none] [.int (0 : Int32)] 1 (fun f => rfl) ?_
      exact zW_rh (some (.int (0 : Int32))) 1 (fun f => rfl) H
    · have c9 : (decide (m (1068 * j1 + 0) = m (1068 * j2 + 0))) = true := ((Bool.not_eq_false' _).mp ((zcB_eq _).symm.trans c))
      replace H := H.2 c9
      refine zW_gh 25 [some (.ref 75), some (.int x1), some (.int x2), some (.int rv), none, none] [.int (1 : Int32), .int x2, .int x1, .ref 75] 4 (fun f => rfl) ?_
      obtain ⟨h5, H⟩ := H
      obtain ⟨h6, H⟩ := H
      refine zW_cl rfl rfl rfl rfl rfl ((s219 e_j1 e_j2 rfl) h5 h6 ?_)
      change zW zm_221 28 [some (.ref 75), some (.int x1), some (.int x2), some (.int rv), none, none] [.int (zbi (decide (m (1068 * j1 + 1) = m (1068 * j2 + 1))))] p _ Q
      refine zW_bh (zcmp .eq (zbi (decide (m (1068 * j1 + 1) = m (1068 * j2 + 1)))) (0 : Int32)) 41 31 [some (.ref 75), some (.int x1), some (.int x2), some (.int rv), none, none] [] 1 (fun f => rfl) (fun c => ?_) (fun c => ?_)
      · have c9 : (decide (m (1068 * j1 + 1) = m (1068 * j2 + 1))) = false := ((Bool.not_eq_true' _).mp ((zcB_eq _).symm.trans c))
        replace H := H.1 c9
        refine zW_gh 43 [some (.ref 75), some (.int x1), some (.int x2), some (.int rv), none, none] [.int rv, .ref 75] 2 (fun f => rfl) ?_
        refine zW_go (pc' := 46) (L' := [some (.ref 75), some (.int x1), some (.int x2), some (.int rv), none, none]) (st' := []) (h' := (va_up (zh K (code, rf, rs, bad, pr, pn, J) (m, pa, pb, pc, vf, vs, B) w) 75 (.inr (7, zfl (rv, rf, rs, bad, pr, pn, J))))) 1 (fun f => rfl) ?_
        refine zW_eq zu_75 ?_
        refine zW_gh 47 [some (.ref 75), some (.int x1), some (.int x2), some (.int rv), none, none] [.int (0 : Int32)] 1 (fun f => rfl) ?_
        exact zW_rh (some (.int (0 : Int32))) 1 (fun f => rfl) H
      · have c9 : (decide (m (1068 * j1 + 1) = m (1068 * j2 + 1))) = true := ((Bool.not_eq_false' _).mp ((zcB_eq _).symm.trans c))
        replace H := H.2 c9
        refine zW_gh 35 [some (.ref 75), some (.int x1), some (.int x2), some (.int rv), none, none] [.int (2 : Int32), .int x2, .int x1, .ref 75] 4 (fun f => rfl) ?_
        obtain ⟨h7, H⟩ := H
        obtain ⟨h8, H⟩ := H
        refine zW_cl rfl rfl rfl rfl rfl ((s219 e_j1 e_j2 rfl) h7 h8 ?_)
        change zW zm_221 38 [some (.ref 75), some (.int x1), some (.int x2), some (.int rv), none, none] [.int (zbi (decide (m (1068 * j1 + 2) = m (1068 * j2 + 2))))] p _ Q
        refine zW_bh (zcmp .ne (zbi (decide (m (1068 * j1 + 2) = m (1068 * j2 + 2)))) (0 : Int32)) 48 41 [some (.ref 75), some (.int x1), some (.int x2), some (.int rv), none, none] [] 1 (fun f => rfl) (fun c => ?_) (fun c => ?_)
        · have c9 : (decide (m (1068 * j1 + 2) = m (1068 * j2 + 2))) = true := ((zcB_ne _).symm.trans c)
          replace H := H.1 c9
          refine zW_gh 50 [some (.ref 75), some (.int x1), some (.int x2), some (.int rv), none, none] [.int x1, .ref 75] 2 (fun f => rfl) ?_
          refine zW_fg (L' := [some (.ref 75), none, some (.int x2), none, none, none]) (zle_s _ (zle_n _ (zle_s _ (zle_n _ (zle_s _ (zle_s _ zle_nil)))))) ?_
          exact zW_cl rfl rfl rfl rfl rfl H
        · have c9 : (decide (m (1068 * j1 + 2) = m (1068 * j2 + 2))) = false := ((zcB_ne _).symm.trans c)
          replace H := H.2 c9
          refine zW_gh 43 [some (.ref 75), some (.int x1), some (.int x2), some (.int rv), none, none] [.int rv, .ref 75] 2 (fun f => rfl) ?_
          refine zW_go (pc' := 46) (L' := [some (.ref 75), some (.int x1), some (.int x2), some (.int rv), none, none]) (st' := []) (h' := (va_up (zh K (code, rf, rs, bad, pr, pn, J) (m, pa, pb, pc, vf, vs, B) w) 75 (.inr (7, zfl (rv, rf, rs, bad, pr, pn, J))))) 1 (fun f => rfl) ?_
          refine zW_eq zu_75 ?_
          refine zW_gh 47 [some (.ref 75), some (.int x1), some (.int x2), some (.int rv), none, none] [.int (0 : Int32)] 1 (fun f => rfl) ?_
          exact zW_rh (some (.int (0 : Int32))) 1 (fun f => rfl) H
theorem b221_53 {K : zKt} {code rf rs pr pn : Int32} {bad : Bool} {J : zJt} {m pa pb pc vf vs : Nat → Int32} {B : zBt} {w : Nat → Int64} {p : Nat × Nat} {Q : zR → zH → Prop} {x2 rv : Int32} (H : zT zm_154 [.ref 75, .int ((1068 : Int32) * x2), .int (4272 : Int32)] p (zh K (code, rf, rs, bad, pr, pn, J) (m, pa, pb, pc, vf, vs, B) w) (zK zm_221 67 [some (.ref 75), none, none, none, some (.int rv), none] [] p Q)) : zW zm_221 53 [some (.ref 75), none, some (.int x2), none, none, none] [.int rv] p (zh K (code, rf, rs, bad, pr, pn, J) (m, pa, pb, pc, vf, vs, B) w) Q := by
  refine zW_gh 64 [some (.ref 75), none, some (.int x2), none, some (.int rv), none] [.int (4272 : Int32), .int ((1068 : Int32) * x2), .ref 75] 6 (fun f => rfl) ?_
  refine zW_fg (L' := [some (.ref 75), none, none, none, some (.int rv), none]) (zle_s _ (zle_s _ (zle_n _ (zle_s _ (zle_s _ (zle_s _ zle_nil)))))) ?_
  exact zW_cl rfl rfl rfl rfl rfl H
theorem b221_67 {K : zKt} {code rf rs pr pn : Int32} {bad : Bool} {J : zJt} {m pa pb pc vf vs : Nat → Int32} {B : zBt} {w : Nat → Int64} {p : Nat × Nat} {Q : zR → zH → Prop} {x4 : Int32} (H : zT zm_146 [.ref 75, .int (4272 : Int32)] p (zh K (code, rf, rs, bad, pr, pn, J) (m, pa, pb, pc, vf, vs, B) w) (zK zm_221 74 [some (.ref 75), none, none, none, some (.int x4), none] [] p Q)) : zW zm_221 67 [some (.ref 75), none, none, none, some (.int x4), none] [] p (zh K (code, rf, rs, bad, pr, pn, J) (m, pa, pb, pc, vf, vs, B) w) Q := by
  refine zW_gh 71 [some (.ref 75), none, none, none, some (.int x4), none] [.int (4272 : Int32), .ref 75] 2 (fun f => rfl) ?_
  exact zW_cl rfl rfl rfl rfl rfl H
theorem b221_74 {K : zKt} {code rf rs pr pn : Int32} {bad : Bool} {J : zJt} {m pa pb pc vf vs : Nat → Int32} {B : zBt} {w : Nat → Int64} {p : Nat × Nat} {Q : zR → zH → Prop} {x4 : Int32} (H : ((bad = false → zT zm_200 [.ref 75, .int (4272 : Int32)] p (zh K (code, rf, rs, bad, pr, pn, J) (m, pa, pb, pc, vf, vs, B) w) (zK zm_221 92 [some (.ref 75), none, none, none, some (.int x4), none] [] p Q)) ∧ (bad = true → ((bad = false → ((bad = true → Q (.inl (some (.int (0 : Int32)))) (zh K ((0 : Int32), rf, rs, bad, pr, pn, J) (m, pa, pb, pc, vf, vs, B) w)) ∧ (bad = false → ((¬ x4 = (0 : Int32) → Q (.inl (some (.int (0 : Int32)))) (zh K ((0 : Int32), rf, rs, bad, pr, pn, J) (m, pa, pb, pc, vf, vs, B) w)) ∧ (x4 = (0 : Int32) → zT zm_220 [.ref 75, .int (m 3205)] p (zh K ((0 : Int32), rf, rs, bad, pr, pn, J) (m, pa, pb, pc, vf, vs, B) w) (zK zm_221 136 [none, none, none, none, none, none] [] p Q)))))) ∧ (bad = true → ((bad = true → Q (.inl (some (.int (0 : Int32)))) (zh K ((3 : Int32), rf, rs, bad, pr, pn, J) (m, pa, pb, pc, vf, vs, B) w)) ∧ (bad = false → ((¬ x4 = (0 : Int32) → Q (.inl (some (.int (0 : Int32)))) (zh K ((3 : Int32), rf, rs, bad, pr, pn, J) (m, pa, pb, pc, vf, vs, B) w)) ∧ (x4 = (0 : Int32) → zT zm_220 [.ref 75, .int (m 3205)] p (zh K ((3 : Int32), rf, rs, bad, pr, pn, J) (m, pa, pb, pc, vf, vs, B) w) (zK zm_221 136 [none, none, none, none, none, none] [] p Q)))))))))) : zW zm_221 74 [some (.ref 75), none, none, none, some (.int x4), none] [] p (zh K (code, rf, rs, bad, pr, pn, J) (m, pa, pb, pc, vf, vs, B) w) Q := by
  refine zW_bh (zcmp .eq (zbi bad) (0 : Int32)) 85 81 [some (.ref 75), none, none, none, some (.int x4), none] [] 3 (fun f => rfl) (fun c => ?_) (fun c => ?_)
  · have c9 : bad = false := ((Bool.not_eq_true' _).mp ((zcB_eq _).symm.trans c))
    replace H := H.1 c9
    refine zW_gh 89 [some (.ref 75), none, none, none, some (.int x4), none] [.int (4272 : Int32), .ref 75] 2 (fun f => rfl) ?_
    exact zW_cl rfl rfl rfl rfl rfl H
  · have c9 : bad = true := ((Bool.not_eq_false' _).mp ((zcB_eq _).symm.trans c))
    replace H := H.2 c9
    refine zW_bh (zcmp .eq (zbi bad) (0 : Int32)) 106 102 [some (.ref 75), none, none, none, some (.int x4), some (.int (0 : Int32))] [.ref 75] 7 (fun f => rfl) (fun c => ?_) (fun c => ?_)
    · have c9 : bad = false := ((Bool.not_eq_true' _).mp ((zcB_eq _).symm.trans c))
      replace H := H.1 c9
      refine zW_gh 107 [some (.ref 75), none, none, none, some (.int x4), some (.int (0 : Int32))] [.int (0 : Int32), .ref 75] 1 (fun f => rfl) ?_
      refine zW_go (pc' := 110) (L' := [some (.ref 75), none, none, none, some (.int x4), some (.int (0 : Int32))]) (st' := []) (h' := (va_up (zh K (code, rf, rs, bad, pr, pn, J) (m, pa, pb, pc, vf, vs, B) w) 75 (.inr (7, zfl ((0 : Int32), rf, rs, bad, pr, pn, J))))) 1 (fun f => rfl) ?_
      refine zW_eq zu_75 ?_
      refine zW_bh (zcmp .ne (zbi bad) (0 : Int32)) 143 117 [some (.ref 75), none, none, none, some (.int x4), some (.int (0 : Int32))] [] 3 (fun f => rfl) (fun c => ?_) (fun c => ?_)
      · have c9 : bad = true := ((zcB_ne _).symm.trans c)
        replace H := H.1 c9
        refine zW_gh 144 [some (.ref 75), none, none, none, some (.int x4), some (.int (0 : Int32))] [.int (0 : Int32)] 1 (fun f => rfl) ?_
        exact zW_rh (some (.int (0 : Int32))) 1 (fun f => rfl) H
      · have c9 : bad = false := ((zcB_ne _).symm.trans c)
        replace H := H.2 c9
        refine zW_bh (zcmp .ne x4 (0 : Int32)) 143 124 [some (.ref 75), none, none, none, some (.int x4), some (.int (0 : Int32))] [] 3 (fun f => rfl) (fun c => ?_) (fun c => ?_)
        · have c9 : ¬ x4 = (0 : Int32) := (by simpa [zcmp] using c)
          replace H := H.1 c9
          refine zW_gh 144 [some (.ref 75), none, none, none, some (.int x4), some (.int (0 : Int32))] [.int (0 : Int32)] 1 (fun f => rfl) ?_
          exact zW_rh (some (.int (0 : Int32))) 1 (fun f => rfl) H
        · have c9 : x4 = (0 : Int32) := (by simpa [zcmp] using c)
          replace H := H.2 c9
          refine zW_gh 132 [some (.ref 75), none, none, none, some (.int x4), some (.int (0 : Int32))] [.int (3205 : Int32), .ref 76, .ref 75] 4 (fun f => rfl) ?_
          refine zW_iald rfl (by decide) rfl (by decide) rfl (by decide) ?_
          refine zW_fg (L' := [none, none, none, none, none, none]) (zle_n _ (zle_s _ (zle_s _ (zle_s _ (zle_n _ (zle_n _ zle_nil)))))) ?_
          exact zW_cl rfl rfl rfl rfl rfl H
    · have c9 : bad = true := ((Bool.not_eq_false' _).mp ((zcB_eq _).symm.trans c))
      replace H := H.2 c9
      refine zW_gh 107 [some (.ref 75), none, none, none, some (.int x4), some (.int (0 : Int32))] [.int (3 : Int32), .ref 75] 2 (fun f => rfl) ?_
      refine zW_go (pc' := 110) (L' := [some (.ref 75), none, none, none, some (.int x4), some (.int (0 : Int32))]) (st' := []) (h' := (va_up (zh K (code, rf, rs, bad, pr, pn, J) (m, pa, pb, pc, vf, vs, B) w) 75 (.inr (7, zfl ((3 : Int32), rf, rs, bad, pr, pn, J))))) 1 (fun f => rfl) ?_
      refine zW_eq zu_75 ?_
      refine zW_bh (zcmp .ne (zbi bad) (0 : Int32)) 143 117 [some (.ref 75), none, none, none, some (.int x4), some (.int (0 : Int32))] [] 3 (fun f => rfl) (fun c => ?_) (fun c => ?_)
      · have c9 : bad = true := ((zcB_ne _).symm.trans c)
        replace H := H.1 c9
        refine zW_gh 144 [some (.ref 75), none, none, none, some (.int x4), some (.int (0 : Int32))] [.int (0 : Int32)] 1 (fun f => rfl) ?_
        exact zW_rh (some (.int (0 : Int32))) 1 (fun f => rfl) H
      · have c9 : bad = false := ((zcB_ne _).symm.trans c)
        replace H := H.2 c9
        refine zW_bh (zcmp .ne x4 (0 : Int32)) 143 124 [some (.ref 75), none, none, none, some (.int x4), some (.int (0 : Int32))] [] 3 (fun f => rfl) (fun c => ?_) (fun c => ?_)
        · have c9 : ¬ x4 = (0 : Int32) := (by simpa [zcmp] using c)
          replace H := H.1 c9
          refine zW_gh 144 [some (.ref 75), none, none, none, some (.int x4), some (.int (0 : Int32))] [.int (0 : Int32)] 1 (fun f => rfl) ?_
          exact zW_rh (some (.int (0 : Int32))) 1 (fun f => rfl) H
        · have c9 : x4 = (0 : Int32) := (by simpa [zcmp] using c)
          replace H := H.2 c9
          refine zW_gh 132 [some (.ref 75), none, none, none, some (.int x4), some (.int (0 : Int32))] [.int (3205 : Int32), .ref 76, .ref 75] 4 (fun f => rfl) ?_
          refine zW_iald rfl (by decide) rfl (by decide) rfl (by decide) ?_
          refine zW_fg (L' := [none, none, none, none, none, none]) (zle_n _ (zle_s _ (zle_s _ (zle_s _ (zle_n _ (zle_n _ zle_nil)))))) ?_
          exact zW_cl rfl rfl rfl rfl rfl H
theorem b221_92 {K : zKt} {code rf rs pr pn : Int32} {bad : Bool} {J : zJt} {m pa pb pc vf vs : Nat → Int32} {B : zBt} {w : Nat → Int64} {p : Nat × Nat} {Q : zR → zH → Prop} {x4 rv : Int32} (H : ((bad = false → ((bad = true → Q (.inl (some (.int (0 : Int32)))) (zh K ((0 : Int32), rf, rs, bad, pr, pn, J) (m, pa, pb, pc, vf, vs, B) w)) ∧ (bad = false → ((¬ x4 = rv → Q (.inl (some (.int (0 : Int32)))) (zh K ((0 : Int32), rf, rs, bad, pr, pn, J) (m, pa, pb, pc, vf, vs, B) w)) ∧ (x4 = rv → zT zm_220 [.ref 75, .int (m 3205)] p (zh K ((0 : Int32), rf, rs, bad, pr, pn, J) (m, pa, pb, pc, vf, vs, B) w) (zK zm_221 136 [none, none, none, none, none, none] [] p Q)))))) ∧ (bad = true → ((bad = true → Q (.inl (some (.int (0 : Int32)))) (zh K ((3 : Int32), rf, rs, bad, pr, pn, J) (m, pa, pb, pc, vf, vs, B) w)) ∧ (bad = false → ((¬ x4 = rv → Q (.inl (some (.int (0 : Int32)))) (zh K ((3 : Int32), rf, rs, bad, pr, pn, J) (m, pa, pb, pc, vf, vs, B) w)) ∧ (x4 = rv → zT zm_220 [.ref 75, .int (m 3205)] p (zh K ((3 : Int32), rf, rs, bad, pr, pn, J) (m, pa, pb, pc, vf, vs, B) w) (zK zm_221 136 [none, none, none, none, none, none] [] p Q)))))))) : zW zm_221 92 [some (.ref 75), none, none, none, some (.int x4), none] [.int rv] p (zh K (code, rf, rs, bad, pr, pn, J) (m, pa, pb, pc, vf, vs, B) w) Q := by
  refine zW_bh (zcmp .eq (zbi bad) (0 : Int32)) 106 102 [some (.ref 75), none, none, none, some (.int x4), some (.int rv)] [.ref 75] 5 (fun f => rfl) (fun c => ?_) (fun c => ?_)
  · have c9 : bad = false := ((Bool.not_eq_true' _).mp ((zcB_eq _).symm.trans c))
    replace H := H.1 c9
    refine zW_gh 107 [some (.ref 75), none, none, none, some (.int x4), some (.int rv)] [.int (0 : Int32), .ref 75] 1 (fun f => rfl) ?_
    refine zW_go (pc' := 110) (L' := [some (.ref 75), none, none, none, some (.int x4), some (.int rv)]) (st' := []) (h' := (va_up (zh K (code, rf, rs, bad, pr, pn, J) (m, pa, pb, pc, vf, vs, B) w) 75 (.inr (7, zfl ((0 : Int32), rf, rs, bad, pr, pn, J))))) 1 (fun f => rfl) ?_
    refine zW_eq zu_75 ?_
    refine zW_bh (zcmp .ne (zbi bad) (0 : Int32)) 143 117 [some (.ref 75), none, none, none, some (.int x4), some (.int rv)] [] 3 (fun f => rfl) (fun c => ?_) (fun c => ?_)
    · have c9 : bad = true := ((zcB_ne _).symm.trans c)
      replace H := H.1 c9
      refine zW_gh 144 [some (.ref 75), none, none, none, some (.int x4), some (.int rv)] [.int (0 : Int32)] 1 (fun f => rfl) ?_
      exact zW_rh (some (.int (0 : Int32))) 1 (fun f => rfl) H
    · have c9 : bad = false := ((zcB_ne _).symm.trans c)
      replace H := H.2 c9
      refine zW_bh (zcmp .ne x4 rv) 143 124 [some (.ref 75), none, none, none, some (.int x4), some (.int rv)] [] 3 (fun f => rfl) (fun c => ?_) (fun c => ?_)
      · have c9 : ¬ x4 = rv := (by simpa [zcmp] using c)
        replace H := H.1 c9
        refine zW_gh 144 [some (.ref 75), none, none, none, some (.int x4), some (.int rv)] [.int (0 : Int32)] 1 (fun f => rfl) ?_
        exact zW_rh (some (.int (0 : Int32))) 1 (fun f => rfl) H
      · have c9 : x4 = rv := (by simpa [zcmp] using c)
        replace H := H.2 c9
        refine zW_gh 132 [some (.ref 75), none, none, none, some (.int x4), some (.int rv)] [.int (3205 : Int32), .ref 76, .ref 75] 4 (fun f => rfl) ?_
        refine zW_iald rfl (by decide) rfl (by decide) rfl (by decide) ?_
        refine zW_fg (L' := [none, none, none, none, none, none]) (zle_n _ (zle_s _ (zle_s _ (zle_s _ (zle_n _ (zle_n _ zle_nil)))))) ?_
        exact zW_cl rfl rfl rfl rfl rfl H
  · have c9 : bad = true := ((Bool.not_eq_false' _).mp ((zcB_eq _).symm.trans c))
    replace H := H.2 c9
    refine zW_gh 107 [some (.ref 75), none, none, none, some (.int x4), some (.int rv)] [.int (3 : Int32), .ref 75] 2 (fun f => rfl) ?_
    refine zW_go (pc' := 110) (L' := [some (.ref 75), none, none, none, some (.int x4), some (.int rv)]) (st' := []) (h' := (va_up (zh K (code, rf, rs, bad, pr, pn, J) (m, pa, pb, pc, vf, vs, B) w) 75 (.inr (7, zfl ((3 : Int32), rf, rs, bad, pr, pn, J))))) 1 (fun f => rfl) ?_
    refine zW_eq zu_75 ?_
    refine zW_bh (zcmp .ne (zbi bad) (0 : Int32)) 143 117 [some (.ref 75), none, none, none, some (.int x4), some (.int rv)] [] 3 (fun f => rfl) (fun c => ?_) (fun c => ?_)
    · have c9 : bad = true := ((zcB_ne _).symm.trans c)
      replace H := H.1 c9
      refine zW_gh 144 [some (.ref 75), none, none, none, some (.int x4), some (.int rv)] [.int (0 : Int32)] 1 (fun f => rfl) ?_
      exact zW_rh (some (.int (0 : Int32))) 1 (fun f => rfl) H
    · have c9 : bad = false := ((zcB_ne _).symm.trans c)
      replace H := H.2 c9
      refine zW_bh (zcmp .ne x4 rv) 143 124 [some (.ref 75), none, none, none, some (.int x4), some (.int rv)] [] 3 (fun f => rfl) (fun c => ?_) (fun c => ?_)
      · have c9 : ¬ x4 = rv := (by simpa [zcmp] using c)
        replace H := H.1 c9
        refine zW_gh 144 [some (.ref 75), none, none, none, some (.int x4), some (.int rv)] [.int (0 : Int32)] 1 (fun f => rfl) ?_
        exact zW_rh (some (.int (0 : Int32))) 1 (fun f => rfl) H
      · have c9 : x4 = rv := (by simpa [zcmp] using c)
        replace H := H.2 c9
        refine zW_gh 132 [some (.ref 75), none, none, none, some (.int x4), some (.int rv)] [.int (3205 : Int32), .ref 76, .ref 75] 4 (fun f => rfl) ?_
        refine zW_iald rfl (by decide) rfl (by decide) rfl (by decide) ?_
        refine zW_fg (L' := [none, none, none, none, none, none]) (zle_n _ (zle_s _ (zle_s _ (zle_s _ (zle_n _ (zle_n _ zle_nil)))))) ?_
        exact zW_cl rfl rfl rfl rfl rfl H
theorem b221_136 {K : zKt} {code rf rs pr pn : Int32} {bad : Bool} {J : zJt} {m pa pb pc vf vs : Nat → Int32} {B : zBt} {w : Nat → Int64} {p : Nat × Nat} {Q : zR → zH → Prop} {rv : Bool} (H : ((rv = false → Q (.inl (some (.int (0 : Int32)))) (zh K (code, rf, rs, bad, pr, pn, J) (m, pa, pb, pc, vf, vs, B) w)) ∧ (rv = true → Q (.inl (some (.int (1 : Int32)))) (zh K (code, rf, rs, bad, pr, pn, J) (m, pa, pb, pc, vf, vs, B) w)))) : zW zm_221 136 [none, none, none, none, none, none] [.int (zbi rv)] p (zh K (code, rf, rs, bad, pr, pn, J) (m, pa, pb, pc, vf, vs, B) w) Q := by
  refine zW_bh (zcmp .eq (zbi rv) (0 : Int32)) 143 139 [none, none, none, none, none, none] [] 1 (fun f => rfl) (fun c => ?_) (fun c => ?_)
  · have c9 : rv = false := ((Bool.not_eq_true' _).mp ((zcB_eq _).symm.trans c))
    replace H := H.1 c9
    refine zW_gh 144 [none, none, none, none, none, none] [.int (0 : Int32)] 1 (fun f => rfl) ?_
    exact zW_rh (some (.int (0 : Int32))) 1 (fun f => rfl) H
  · have c9 : rv = true := ((Bool.not_eq_false' _).mp ((zcB_eq _).symm.trans c))
    replace H := H.2 c9
    refine zW_gh 144 [none, none, none, none, none, none] [.int (1 : Int32)] 2 (fun f => rfl) ?_
    exact zW_rh (some (.int (1 : Int32))) 1 (fun f => rfl) H
theorem b222 {K : zKt} {code rf rs pr pn : Int32} {bad : Bool} {J : zJt} {m pa pb pc vf vs : Nat → Int32} {B : zBt} {w : Nat → Int64} {p : Nat × Nat} {Q : zR → zH → Prop} {a0 a1 a2 a3 : Int32} (H : (((zisr a0) = false → Q (.inl (some (.int (0 : Int32)))) (zh K ((1 : Int32), rf, rs, bad, pr, pn, J) (m, pa, pb, pc, vf, vs, B) w)) ∧ ((zisr a0) = true → ∀ k_a0, zrg k_a0 → a0 = Int32.ofNat k_a0 → (((zise (Int32.ofNat k_a0) a1 (0 : Int32)) = false → Q (.inl (some (.int (0 : Int32)))) (zh K ((1 : Int32), rf, rs, bad, pr, pn, J) (m, pa, pb, pc, vf, vs, B) w)) ∧ ((zise (Int32.ofNat k_a0) a1 (0 : Int32)) = true → (((zise (Int32.ofNat k_a0) a2 (0 : Int32)) = false → Q (.inl (some (.int (0 : Int32)))) (zh K ((1 : Int32), rf, rs, bad, pr, pn, J) (m, pa, pb, pc, vf, vs, B) w)) ∧ ((zise (Int32.ofNat k_a0) a2 (0 : Int32)) = true → (((zin ((a3).toInt64) (0 : Int64) (1 : Int64)) = true → ∀ k_a3, 0 ≤ k_a3 ∧ k_a3 ≤ 1 → a3 = Int32.ofNat k_a3 → ((¬ a2 = (0 : Int32) → zT zm_191 [.ref 75, .int (Int32.ofNat k_a0), .int a1, .int (0 : Int32), .int a2, .int (0 : Int32)] p (zh K ((0 : Int32), rf, rs, false, pr, pn, J) (m, pa, pb, pc, vf, vs, B) w) (zK zm_222 71 [some (.ref 75), none, none, none, some (.int (Int32.ofNat k_a3))] [] p Q)) ∧ (a2 = (0 : Int32) → Q (.inl (some (.int (0 : Int32)))) (zh K ((2 : Int32), rf, rs, bad, pr, pn, J) (m, pa, pb, pc, vf, vs, B) w)))) ∧ ((zin ((a3).toInt64) (0 : Int64) (1 : Int64)) = false → Q (.inl (some (.int (0 : Int32)))) (zh K ((1 : Int32), rf, rs, bad, pr, pn, J) (m, pa, pb, pc, vf, vs, B) w)))))))))) : zT zm_222 [.ref 75, .int a0, .int a1, .int a2, .int a3] p (zh K (code, rf, rs, bad, pr, pn, J) (m, pa, pb, pc, vf, vs, B) w) Q := by
  change zW zm_222 0 [some (.ref 75), some (.int a0), some (.int a1), some (.int a2), some (.int a3)] [] p _ Q
  refine zW_gh 2 [some (.ref 75), some (.int a0), some (.int a1), some (.int a2), some (.int a3)] [.int (0 : Int32), .ref 75] 2 (fun f => rfl) ?_
  refine zW_go (pc' := 5) (L' := [some (.ref 75), some (.int a0), some (.int a1), some (.int a2), some (.int a3)]) (st' := []) (h' := (va_up (zh K (code, rf, rs, bad, pr, pn, J) (m, pa, pb, pc, vf, vs, B) w) 75 (.inr (7, zfl ((0 : Int32), rf, rs, bad, pr, pn, J))))) 1 (fun f => rfl) ?_
  refine zW_eq zu_75 ?_
  refine zW_gh 6 [some (.ref 75), some (.int a0), some (.int a1), some (.int a2), some (.int a3)] [.int a0] 1 (fun f => rfl) ?_
  refine zW_cl rfl rfl rfl rfl rfl (s143 ?_)
  change zW zm_222 9 [some (.ref 75), some (.int a0), some (.int a1), some (.int a2), some (.int a3)] [.int (zbi (zisr a0))] p _ Q
  refine zW_bh (zcmp .eq (zbi (zisr a0)) (0 : Int32)) 41 12 [some (.ref 75), some (.int a0), some (.int a1), some (.int a2), some (.int a3)] [] 1 (fun f => rfl) (fun c => ?_) (fun c => ?_)
  · have c9 : (zisr a0) = false := ((Bool.not_eq_true' _).mp ((zcB_eq _).symm.trans c))
    replace H := H.1 c9
    refine zW_gh 43 [some (.ref 75), some (.int a0), some (.int a1), some (.int a2), some (.int a3)] [.int (1 : Int32), .ref 75] 2 (fun f => rfl) ?_
    refine zW_cl rfl rfl rfl rfl rfl (s142 ?_)
    change zW zm_222 46 [some (.ref 75), some (.int a0), some (.int a1), some (.int a2), some (.int a3)] [.int (0 : Int32)] p _ Q
    exact zW_rh (some (.int (0 : Int32))) 1 (fun f => rfl) H
  · have c9 : (zisr a0) = true := ((Bool.not_eq_false' _).mp ((zcB_eq _).symm.trans c))
    replace H := H.2 c9
    obtain ⟨k_a0, h_k_a0, e_k_a0⟩ := zisr_n c9
    replace H := H k_a0 h_k_a0 e_k_a0
    subst e_k_a0
    refine zW_gh 15 [some (.ref 75), some (.int (Int32.ofNat k_a0)), some (.int a1), some (.int a2), some (.int a3)] [.int (0 : Int32), .int a1, .int (Int32.ofNat k_a0)] 3 (fun f => rfl) ?_
    refine zW_cl rfl rfl rfl rfl rfl (s149 ?_)
    change zW zm_222 18 [some (.ref 75), some (.int (Int32.ofNat k_a0)), some (.int a1), some (.int a2), some (.int a3)] [.int (zbi (zise (Int32.ofNat k_a0) a1 (0 : Int32)))] p _ Q
    refine zW_bh (zcmp .eq (zbi (zise (Int32.ofNat k_a0) a1 (0 : Int32))) (0 : Int32)) 41 21 [some (.ref 75), some (.int (Int32.ofNat k_a0)), some (.int a1), some (.int a2), some (.int a3)] [] 1 (fun f => rfl) (fun c => ?_) (fun c => ?_)
    · have c9 : (zise (Int32.ofNat k_a0) a1 (0 : Int32)) = false := ((Bool.not_eq_true' _).mp ((zcB_eq _).symm.trans c))
      replace H := H.1 c9
      refine zW_gh 43 [some (.ref 75), some (.int (Int32.ofNat k_a0)), some (.int a1), some (.int a2), some (.int a3)] [.int (1 : Int32), .ref 75] 2 (fun f => rfl) ?_
      refine zW_cl rfl rfl rfl rfl rfl (s142 ?_)
      change zW zm_222 46 [some (.ref 75), some (.int (Int32.ofNat k_a0)), some (.int a1), some (.int a2), some (.int a3)] [.int (0 : Int32)] p _ Q
      exact zW_rh (some (.int (0 : Int32))) 1 (fun f => rfl) H
    · have c9 : (zise (Int32.ofNat k_a0) a1 (0 : Int32)) = true := ((Bool.not_eq_false' _).mp ((zcB_eq _).symm.trans c))
      replace H := H.2 c9
      refine zW_gh 24 [some (.ref 75), some (.int (Int32.ofNat k_a0)), some (.int a1), some (.int a2), some (.int a3)] [.int (0 : Int32), .int a2, .int (Int32.ofNat k_a0)] 3 (fun f => rfl) ?_
      refine zW_cl rfl rfl rfl rfl rfl (s149 ?_)
      change zW zm_222 27 [some (.ref 75), some (.int (Int32.ofNat k_a0)), some (.int a1), some (.int a2), some (.int a3)] [.int (zbi (zise (Int32.ofNat k_a0) a2 (0 : Int32)))] p _ Q
      refine zW_bh (zcmp .eq (zbi (zise (Int32.ofNat k_a0) a2 (0 : Int32))) (0 : Int32)) 41 30 [some (.ref 75), some (.int (Int32.ofNat k_a0)), some (.int a1), some (.int a2), some (.int a3)] [] 1 (fun f => rfl) (fun c => ?_) (fun c => ?_)
      · have c9 : (zise (Int32.ofNat k_a0) a2 (0 : Int32)) = false := ((Bool.not_eq_true' _).mp ((zcB_eq _).symm.trans c))
        replace H := H.1 c9
        refine zW_gh 43 [some (.ref 75), some (.int (Int32.ofNat k_a0)), some (.int a1), some (.int a2), some (.int a3)] [.int (1 : Int32), .ref 75] 2 (fun f => rfl) ?_
        refine zW_cl rfl rfl rfl rfl rfl (s142 ?_)
        change zW zm_222 46 [some (.ref 75), some (.int (Int32.ofNat k_a0)), some (.int a1), some (.int a2), some (.int a3)] [.int (0 : Int32)] p _ Q
        exact zW_rh (some (.int (0 : Int32))) 1 (fun f => rfl) H
      · have c9 : (zise (Int32.ofNat k_a0) a2 (0 : Int32)) = true := ((Bool.not_eq_false' _).mp ((zcB_eq _).symm.trans c))
        replace H := H.2 c9
        refine zW_gh 35 [some (.ref 75), some (.int (Int32.ofNat k_a0)), some (.int a1), some (.int a2), some (.int a3)] [.long (1 : Int64), .long (0 : Int64), .long ((a3).toInt64)] 4 (fun f => rfl) ?_
        refine zW_cl rfl rfl rfl rfl rfl (s141 ?_)
        change zW zm_222 38 [some (.ref 75), some (.int (Int32.ofNat k_a0)), some (.int a1), some (.int a2), some (.int a3)] [.int (zbi (zin ((a3).toInt64) (0 : Int64) (1 : Int64)))] p _ Q
        refine zW_bh (zcmp .ne (zbi (zin ((a3).toInt64) (0 : Int64) (1 : Int64))) (0 : Int32)) 47 41 [some (.ref 75), some (.int (Int32.ofNat k_a0)), some (.int a1), some (.int a2), some (.int a3)] [] 1 (fun f => rfl) (fun c => ?_) (fun c => ?_)
        · have c9 : (zin ((a3).toInt64) (0 : Int64) (1 : Int64)) = true := ((zcB_ne _).symm.trans c)
          replace H := H.1 c9
          obtain ⟨k_a3, h_k_a3, e_k_a3⟩ := zin_k (l := 0) (h := 1) (by decide) (by decide) c9
          replace H := H k_a3 h_k_a3 e_k_a3
          subst e_k_a3
          refine zW_bh (zcmp .ne a2 (0 : Int32)) 57 51 [some (.ref 75), some (.int (Int32.ofNat k_a0)), some (.int a1), some (.int a2), some (.int (Int32.ofNat k_a3))] [] 2 (fun f => rfl) (fun c => ?_) (fun c => ?_)
          · have c9 : ¬ a2 = (0 : Int32) := (by simpa [zcmp] using c)
            replace H := H.1 c9
            refine zW_gh 59 [some (.ref 75), some (.int (Int32.ofNat k_a0)), some (.int a1), some (.int a2), some (.int (Int32.ofNat k_a3))] [.int (0 : Int32), .ref 75] 2 (fun f => rfl) ?_
            refine zW_go (pc' := 62) (L' := [some (.ref 75), some (.int (Int32.ofNat k_a0)), some (.int a1), some (.int a2), some (.int (Int32.ofNat k_a3))]) (st' := []) (h' := (va_up (zh K ((0 : Int32), rf, rs, bad, pr, pn, J) (m, pa, pb, pc, vf, vs, B) w) 75 (.inr (7, zfl ((0 : Int32), rf, rs, false, pr, pn, J))))) 1 (fun f => rfl) ?_
            refine zW_eq zu_75 ?_
            refine zW_gh 68 [some (.ref 75), some (.int (Int32.ofNat k_a0)), some (.int a1), some (.int a2), some (.int (Int32.ofNat k_a3))] [.int (0 : Int32), .int a2, .int (0 : Int32), .int a1, .int (Int32.ofNat k_a0), .ref 75] 6 (fun f => rfl) ?_
            refine zW_fg (L' := [some (.ref 75), none, none, none, some (.int (Int32.ofNat k_a3))]) (zle_s _ (zle_n _ (zle_n _ (zle_n _ (zle_s _ zle_nil))))) ?_
            exact zW_cl rfl rfl rfl rfl rfl H
          · have c9 : a2 = (0 : Int32) := (by simpa [zcmp] using c)
            replace H := H.2 c9
            refine zW_gh 53 [some (.ref 75), some (.int (Int32.ofNat k_a0)), some (.int a1), some (.int a2), some (.int (Int32.ofNat k_a3))] [.int (2 : Int32), .ref 75] 2 (fun f => rfl) ?_
            refine zW_cl rfl rfl rfl rfl rfl (s142 ?_)
            change zW zm_222 56 [some (.ref 75), some (.int (Int32.ofNat k_a0)), some (.int a1), some (.int a2), some (.int (Int32.ofNat k_a3))] [.int (0 : Int32)] p _ Q
            exact zW_rh (some (.int (0 : Int32))) 1 (fun f => rfl) H
        · have c9 : (zin ((a3).toInt64) (0 : Int64) (1 : Int64)) = false := ((zcB_ne _).symm.trans c)
          replace H := H.2 c9
          refine zW_gh 43 [some (.ref 75), some (.int (Int32.ofNat k_a0)), some (.int a1), some (.int a2), some (.int a3)] [.int (1 : Int32), .ref 75] 2 (fun f => rfl) ?_
          refine zW_cl rfl rfl rfl rfl rfl (s142 ?_)
          change zW zm_222 46 [some (.ref 75), some (.int (Int32.ofNat k_a0)), some (.int a1), some (.int a2), some (.int a3)] [.int (0 : Int32)] p _ Q
          exact zW_rh (some (.int (0 : Int32))) 1 (fun f => rfl) H
theorem b222_71 {K : zKt} {code rf rs pr pn : Int32} {bad : Bool} {J : zJt} {m pa pb pc vf vs : Nat → Int32} {B : zBt} {w : Nat → Int64} {p : Nat × Nat} {Q : zR → zH → Prop} {x4 : Nat} (H : (x4 < 2147483648 ∧ ((¬ x4 = 0 → Q (.inl (some (.int rs))) (zh K (code, rf, rs, bad, pr, pn, J) (m, pa, pb, pc, vf, vs, B) w)) ∧ (x4 = 0 → Q (.inl (some (.int rf))) (zh K (code, rf, rs, bad, pr, pn, J) (m, pa, pb, pc, vf, vs, B) w))))) : zW zm_222 71 [some (.ref 75), none, none, none, some (.int (Int32.ofNat x4))] [] p (zh K (code, rf, rs, bad, pr, pn, J) (m, pa, pb, pc, vf, vs, B) w) Q := by
  obtain ⟨h1, H⟩ := H
  refine zW_bh (zcmp .ne (Int32.ofNat x4) (0 : Int32)) 83 76 [some (.ref 75), none, none, none, some (.int (Int32.ofNat x4))] [] 2 (fun f => rfl) (fun c => ?_) (fun c => ?_)
  · have c9 : ¬ x4 = 0 := (by have c := (zcN_ne (a := x4) (b := 0) rfl rfl h1 (by decide)).symm.trans c; simpa using c)
    replace H := H.1 c9
    refine zW_gh 87 [some (.ref 75), none, none, none, some (.int (Int32.ofNat x4))] [.int rs] 2 (fun f => rfl) ?_
    exact zW_rh (some (.int rs)) 1 (fun f => rfl) H
  · have c9 : x4 = 0 := (by have c := (zcN_ne (a := x4) (b := 0) rfl rfl h1 (by decide)).symm.trans c; simpa using c)
    replace H := H.2 c9
    refine zW_gh 87 [some (.ref 75), none, none, none, some (.int (Int32.ofNat x4))] [.int rf] 3 (fun f => rfl) ?_
    exact zW_rh (some (.int rf)) 1 (fun f => rfl) H
set_option maxRecDepth 20000 in
theorem b223 {K : zKt} {code rf rs pr pn : Int32} {bad : Bool} {J : zJt} {m pa pb pc vf vs : Nat → Int32} {B : zBt} {w : Nat → Int64} {p : Nat × Nat} {Q : zR → zH → Prop} {a0 a1 a2 a3 a4 a5 : Int32} (H : (((zisr a0) = false → Q (.inl (some (.int (0 : Int32)))) (zh K ((1 : Int32), rf, rs, bad, pr, pn, J) (m, pa, pb, pc, vf, vs, B) w)) ∧ ((zisr a0) = true → ∀ k_a0, zrg k_a0 → a0 = Int32.ofNat k_a0 → (((zise (Int32.ofNat k_a0) a1 a2) = false → Q (.inl (some (.int (0 : Int32)))) (zh K ((1 : Int32), rf, rs, bad, pr, pn, J) (m, pa, pb, pc, vf, vs, B) w)) ∧ ((zise (Int32.ofNat k_a0) a1 a2) = true → (((zise (Int32.ofNat k_a0) a3 a4) = false → Q (.inl (some (.int (0 : Int32)))) (zh K ((1 : Int32), rf, rs, bad, pr, pn, J) (m, pa, pb, pc, vf, vs, B) w)) ∧ ((zise (Int32.ofNat k_a0) a3 a4) = true → (((zin ((a5).toInt64) (0 : Int64) (1 : Int64)) = true → ∀ k_a5, 0 ≤ k_a5 ∧ k_a5 ≤ 1 → a5 = Int32.ofNat k_a5 → zW zm_223 71 [some (.ref 75), some (.int (Int32.ofNat k_a0)), none, none, none, none, some (.int (Int32.ofNat k_a5)), some (.int a1), some (.int a2), some (.int a3), some (.int a4), some (.int (Int32.ofNat 0))] [] p (zh K ((0 : Int32), rf, rs, false, pr, pn, J) (m, pa, pb, pc, vf, vs, B) w) Q) ∧ ((zin ((a5).toInt64) (0 : Int64) (1 : Int64)) = false → Q (.inl (some (.int (0 : Int32)))) (zh K ((1 : Int32), rf, rs, bad, pr, pn, J) (m, pa, pb, pc, vf, vs, B) w)))))))))) : zT zm_223 [.ref 75, .int a0, .int a1, .int a2, .int a3, .int a4, .int a5] p (zh K (code, rf, rs, bad, pr, pn, J) (m, pa, pb, pc, vf, vs, B) w) Q := by
  change zW zm_223 0 [some (.ref 75), some (.int a0), some (.int a1), some (.int a2), some (.int a3), some (.int a4), some (.int a5), none, none, none, none, none] [] p _ Q
  refine zW_gh 2 [some (.ref 75), some (.int a0), some (.int a1), some (.int a2), some (.int a3), some (.int a4), some (.int a5), none, none, none, none, none] [.int (0 : Int32), .ref 75] 2 (fun f => rfl) ?_
  refine zW_go (pc' := 5) (L' := [some (.ref 75), some (.int a0), some (.int a1), some (.int a2), some (.int a3), some (.int a4), some (.int a5), none, none, none, none, none]) (st' := []) (h' := (va_up (zh K (code, rf, rs, bad, pr, pn, J) (m, pa, pb, pc, vf, vs, B) w) 75 (.inr (7, zfl ((0 : Int32), rf, rs, bad, pr, pn, J))))) 1 (fun f => rfl) ?_
  refine zW_eq zu_75 ?_
  refine zW_gh 6 [some (.ref 75), some (.int a0), some (.int a1), some (.int a2), some (.int a3), some (.int a4), some (.int a5), none, none, none, none, none] [.int a0] 1 (fun f => rfl) ?_
  refine zW_cl rfl rfl rfl rfl rfl (s143 ?_)
  change zW zm_223 9 [some (.ref 75), some (.int a0), some (.int a1), some (.int a2), some (.int a3), some (.int a4), some (.int a5), none, none, none, none, none] [.int (zbi (zisr a0))] p _ Q
  refine zW_bh (zcmp .eq (zbi (zisr a0)) (0 : Int32)) 43 12 [some (.ref 75), some (.int a0), some (.int a1), some (.int a2), some (.int a3), some (.int a4), some (.int a5), none, none, none, none, none] [] 1 (fun f => rfl) (fun c => ?_) (fun c => ?_)
  · have c9 : (zisr a0) = false := ((Bool.not_eq_true' _).mp ((zcB_eq _).symm.trans c))
    replace H := H.1 c9
    refine zW_gh 45 [some (.ref 75), some (.int a0), some (.int a1), some (.int a2), some (.int a3), some (.int a4), some (.int a5), none, none, none, none, none] [.int (1 : Int32), .ref 75] 2 (fun f => rfl) ?_
    refine zW_cl rfl rfl rfl rfl rfl (s142 ?_)
    change zW zm_223 48 [some (.ref 75), some (.int a0), some (.int a1), some (.int a2), some (.int a3), some (.int a4), some (.int a5), none, none, none, none, none] [.int (0 : Int32)] p _ Q
    exact zW_rh (some (.int (0 : Int32))) 1 (fun f => rfl) H
  · have c9 : (zisr a0) = true := ((Bool.not_eq_false' _).mp ((zcB_eq _).symm.trans c))
    replace H := H.2 c9
    obtain ⟨k_a0, h_k_a0, e_k_a0⟩ := zisr_n c9
    replace H := H k_a0 h_k_a0 e_k_a0
    subst e_k_a0
    refine zW_gh 15 [some (.ref 75), some (.int (Int32.ofNat k_a0)), some (.int a1), some (.int a2), some (.int a3), some (.int a4), some (.int a5), none, none, none, none, none] [.int a2, .int a1, .int (Int32.ofNat k_a0)] 3 (fun f => rfl) ?_
    refine zW_cl rfl rfl rfl rfl rfl (s149 ?_)
    change zW zm_223 18 [some (.ref 75), some (.int (Int32.ofNat k_a0)), some (.int a1), some (.int a2), some (.int a3), some (.int a4), some (.int a5), none, none, none, none, none] [.int (zbi (zise (Int32.ofNat k_a0) a1 a2))] p _ Q
    refine zW_bh (zcmp .eq (zbi (zise (Int32.ofNat k_a0) a1 a2)) (0 : Int32)) 43 21 [some (.ref 75), some (.int (Int32.ofNat k_a0)), some (.int a1), some (.int a2), some (.int a3), some (.int a4), some (.int a5), none, none, none, none, none] [] 1 (fun f => rfl) (fun c => ?_) (fun c => ?_)
    · have c9 : (zise (Int32.ofNat k_a0) a1 a2) = false := ((Bool.not_eq_true' _).mp ((zcB_eq _).symm.trans c))
      replace H := H.1 c9
      refine zW_gh 45 [some (.ref 75), some (.int (Int32.ofNat k_a0)), some (.int a1), some (.int a2), some (.int a3), some (.int a4), some (.int a5), none, none, none, none, none] [.int (1 : Int32), .ref 75] 2 (fun f => rfl) ?_
      refine zW_cl rfl rfl rfl rfl rfl (s142 ?_)
      change zW zm_223 48 [some (.ref 75), some (.int (Int32.ofNat k_a0)), some (.int a1), some (.int a2), some (.int a3), some (.int a4), some (.int a5), none, none, none, none, none] [.int (0 : Int32)] p _ Q
      exact zW_rh (some (.int (0 : Int32))) 1 (fun f => rfl) H
    · have c9 : (zise (Int32.ofNat k_a0) a1 a2) = true := ((Bool.not_eq_false' _).mp ((zcB_eq _).symm.trans c))
      replace H := H.2 c9
      refine zW_gh 26 [some (.ref 75), some (.int (Int32.ofNat k_a0)), some (.int a1), some (.int a2), some (.int a3), some (.int a4), some (.int a5), none, none, none, none, none] [.int a4, .int a3, .int (Int32.ofNat k_a0)] 3 (fun f => rfl) ?_
      refine zW_cl rfl rfl rfl rfl rfl (s149 ?_)
      change zW zm_223 29 [some (.ref 75), some (.int (Int32.ofNat k_a0)), some (.int a1), some (.int a2), some (.int a3), some (.int a4), some (.int a5), none, none, none, none, none] [.int (zbi (zise (Int32.ofNat k_a0) a3 a4))] p _ Q
      refine zW_bh (zcmp .eq (zbi (zise (Int32.ofNat k_a0) a3 a4)) (0 : Int32)) 43 32 [some (.ref 75), some (.int (Int32.ofNat k_a0)), some (.int a1), some (.int a2), some (.int a3), some (.int a4), some (.int a5), none, none, none, none, none] [] 1 (fun f => rfl) (fun c => ?_) (fun c => ?_)
      · have c9 : (zise (Int32.ofNat k_a0) a3 a4) = false := ((Bool.not_eq_true' _).mp ((zcB_eq _).symm.trans c))
        replace H := H.1 c9
        refine zW_gh 45 [some (.ref 75), some (.int (Int32.ofNat k_a0)), some (.int a1), some (.int a2), some (.int a3), some (.int a4), some (.int a5), none, none, none, none, none] [.int (1 : Int32), .ref 75] 2 (fun f => rfl) ?_
        refine zW_cl rfl rfl rfl rfl rfl (s142 ?_)
        change zW zm_223 48 [some (.ref 75), some (.int (Int32.ofNat k_a0)), some (.int a1), some (.int a2), some (.int a3), some (.int a4), some (.int a5), none, none, none, none, none] [.int (0 : Int32)] p _ Q
        exact zW_rh (some (.int (0 : Int32))) 1 (fun f => rfl) H
      · have c9 : (zise (Int32.ofNat k_a0) a3 a4) = true := ((Bool.not_eq_false' _).mp ((zcB_eq _).symm.trans c))
        replace H := H.2 c9
        refine zW_gh 37 [some (.ref 75), some (.int (Int32.ofNat k_a0)), some (.int a1), some (.int a2), some (.int a3), some (.int a4), some (.int a5), none, none, none, none, none] [.long (1 : Int64), .long (0 : Int64), .long ((a5).toInt64)] 4 (fun f => rfl) ?_
        refine zW_cl rfl rfl rfl rfl rfl (s141 ?_)
        change zW zm_223 40 [some (.ref 75), some (.int (Int32.ofNat k_a0)), some (.int a1), some (.int a2), some (.int a3), some (.int a4), some (.int a5), none, none, none, none, none] [.int (zbi (zin ((a5).toInt64) (0 : Int64) (1 : Int64)))] p _ Q
        refine zW_bh (zcmp .ne (zbi (zin ((a5).toInt64) (0 : Int64) (1 : Int64))) (0 : Int32)) 49 43 [some (.ref 75), some (.int (Int32.ofNat k_a0)), some (.int a1), some (.int a2), some (.int a3), some (.int a4), some (.int a5), none, none, none, none, none] [] 1 (fun f => rfl) (fun c => ?_) (fun c => ?_)
        · have c9 : (zin ((a5).toInt64) (0 : Int64) (1 : Int64)) = true := ((zcB_ne _).symm.trans c)
          replace H := H.1 c9
          obtain ⟨k_a5, h_k_a5, e_k_a5⟩ := zin_k (l := 0) (h := 1) (by decide) (by decide) c9
          replace H := H k_a5 h_k_a5 e_k_a5
          subst e_k_a5
          refine zW_gh 51 [some (.ref 75), some (.int (Int32.ofNat k_a0)), some (.int a1), some (.int a2), some (.int a3), some (.int a4), some (.int (Int32.ofNat k_a5)), none, none, none, none, none] [.int (0 : Int32), .ref 75] 2 (fun f => rfl) ?_
          refine zW_go (pc' := 54) (L' := [some (.ref 75), some (.int (Int32.ofNat k_a0)), some (.int a1), some (.int a2), some (.int a3), some (.int a4), some (.int (Int32.ofNat k_a5)), none, none, none, none, none]) (st' := []) (h' := (va_up (zh K ((0 : Int32), rf, rs, bad, pr, pn, J) (m, pa, pb, pc, vf, vs, B) w) 75 (.inr (7, zfl ((0 : Int32), rf, rs, false, pr, pn, J))))) 1 (fun f => rfl) ?_
          refine zW_eq zu_75 ?_
          refine zW_gh 69 [some (.ref 75), some (.int (Int32.ofNat k_a0)), some (.int a1), some (.int a2), some (.int a3), some (.int a4), some (.int (Int32.ofNat k_a5)), some (.int a1), some (.int a2), some (.int a3), some (.int a4), none] [.int (0 : Int32)] 9 (fun f => rfl) ?_
          refine zW_gh 71 [some (.ref 75), some (.int (Int32.ofNat k_a0)), some (.int a1), some (.int a2), some (.int a3), some (.int a4), some (.int (Int32.ofNat k_a5)), some (.int a1), some (.int a2), some (.int a3), some (.int a4), some (.int (0 : Int32))] [] 1 (fun f => rfl) ?_
          refine zW_fg (L' := [some (.ref 75), some (.int (Int32.ofNat k_a0)), none, none, none, none, some (.int (Int32.ofNat k_a5)), some (.int a1), some (.int a2), some (.int a3), some (.int a4), some (.int (0 : Int32))]) (zle_s _ (zle_s _ (zle_n _ (zle_n _ (zle_n _ (zle_n _ (zle_s _ (zle_s _ (zle_s _ (zle_s _ (zle_s _ (zle_s _ zle_nil)))))))))))) ?_
          exact H
        · have c9 : (zin ((a5).toInt64) (0 : Int64) (1 : Int64)) = false := ((zcB_ne _).symm.trans c)
          replace H := H.2 c9
          refine zW_gh 45 [some (.ref 75), some (.int (Int32.ofNat k_a0)), some (.int a1), some (.int a2), some (.int a3), some (.int a4), some (.int a5), none, none, none, none, none] [.int (1 : Int32), .ref 75] 2 (fun f => rfl) ?_
          refine zW_cl rfl rfl rfl rfl rfl (s142 ?_)
          change zW zm_223 48 [some (.ref 75), some (.int (Int32.ofNat k_a0)), some (.int a1), some (.int a2), some (.int a3), some (.int a4), some (.int a5), none, none, none, none, none] [.int (0 : Int32)] p _ Q
          exact zW_rh (some (.int (0 : Int32))) 1 (fun f => rfl) H
set_option maxRecDepth 20000 in
theorem b223_71 {K : zKt} {code rf rs pr pn : Int32} {bad : Bool} {J : zJt} {m pa pb pc vf vs : Nat → Int32} {B : zBt} {w : Nat → Int64} {p : Nat × Nat} {Q : zR → zH → Prop} {x1 x6 x11 : Nat} {x7 x8 x9 x10 : Int32} (H : (x11 < 2147483648 ∧ ((1000 ≤ x11 → (((zzr x7 x8) = false → zT zm_198 [.ref 75, .int (Int32.ofNat x1), .int x7, .int x8] p (zh K (code, rf, rs, bad, pr, pn, J) (m, pa, pb, pc, vf, vs, B) w) (zK zm_223 149 [some (.ref 75), some (.int (Int32.ofNat x1)), none, none, none, none, some (.int (Int32.ofNat x6)), some (.int x7), some (.int x8), none, none, none] [] p Q)) ∧ ((zzr x7 x8) = true → Q (.inl (some (.int (0 : Int32)))) (zh K (code, rf, rs, bad, pr, pn, J) (m, pa, pb, pc, vf, vs, B) w)))) ∧ (x11 < 1000 → (((zzr x9 x10) = true → (((zzr x7 x8) = false → zT zm_198 [.ref 75, .int (Int32.ofNat x1), .int x7, .int x8] p (zh K (code, rf, rs, bad, pr, pn, J) (m, pa, pb, pc, vf, vs, B) w) (zK zm_223 149 [some (.ref 75), some (.int (Int32.ofNat x1)), none, none, none, none, some (.int (Int32.ofNat x6)), some (.int x7), some (.int x8), none, none, none] [] p Q)) ∧ ((zzr x7 x8) = true → Q (.inl (some (.int (0 : Int32)))) (zh K (code, rf, rs, bad, pr, pn, J) (m, pa, pb, pc, vf, vs, B) w)))) ∧ ((zzr x9 x10) = false → zT zm_204 [.ref 75, .int (Int32.ofNat x1), .int x7, .int x8, .int x9, .int x10] p (zh K (code, rf, rs, bad, pr, pn, J) (m, pa, pb, pc, vf, vs, B) w) (zK zm_223 102 [some (.ref 75), some (.int (Int32.ofNat x1)), none, none, none, none, some (.int (Int32.ofNat x6)), none, none, some (.int x9), some (.int x10), some (.int (Int32.ofNat x11))] [] p Q))))))) : zW zm_223 71 [some (.ref 75), some (.int (Int32.ofNat x1)), none, none, none, none, some (.int (Int32.ofNat x6)), some (.int x7), some (.int x8), some (.int x9), some (.int x10), some (.int (Int32.ofNat x11))] [] p (zh K (code, rf, rs, bad, pr, pn, J) (m, pa, pb, pc, vf, vs, B) w) Q := by
  obtain ⟨h1, H⟩ := H
  refine zW_bh (zcmp .ge (Int32.ofNat x11) (1000 : Int32)) 128 79 [some (.ref 75), some (.int (Int32.ofNat x1)), none, none, none, none, some (.int (Int32.ofNat x6)), some (.int x7), some (.int x8), some (.int x9), some (.int x10), some (.int (Int32.ofNat x11))] [] 3 (fun f => rfl) (fun c => ?_) (fun c => ?_)
  · have c9 : 1000 ≤ x11 := (of_decide_eq_true ((zcN_ge (a := x11) (b := 1000) rfl rfl h1 (by decide)).symm.trans c))
    replace H := H.1 c9
    refine zW_gh 132 [some (.ref 75), some (.int (Int32.ofNat x1)), none, none, none, none, some (.int (Int32.ofNat x6)), some (.int x7), some (.int x8), some (.int x9), some (.int x10), some (.int (Int32.ofNat x11))] [.int x8, .int x7] 2 (fun f => rfl) ?_
    refine zW_cl rfl rfl rfl rfl rfl (s186 ?_)
    change zW zm_223 135 [some (.ref 75), some (.int (Int32.ofNat x1)), none, none, none, none, some (.int (Int32.ofNat x6)), some (.int x7), some (.int x8), some (.int x9), some (.int x10), some (.int (Int32.ofNat x11))] [.int (zbi (zzr x7 x8))] p _ Q
    refine zW_bh (zcmp .eq (zbi (zzr x7 x8)) (0 : Int32)) 140 138 [some (.ref 75), some (.int (Int32.ofNat x1)), none, none, none, none, some (.int (Int32.ofNat x6)), some (.int x7), some (.int x8), some (.int x9), some (.int x10), some (.int (Int32.ofNat x11))] [] 1 (fun f => rfl) (fun c => ?_) (fun c => ?_)
    · have c9 : (zzr x7 x8) = false := ((Bool.not_eq_true' _).mp ((zcB_eq _).symm.trans c))
      replace H := H.1 c9
      refine zW_gh 146 [some (.ref 75), some (.int (Int32.ofNat x1)), none, none, none, none, some (.int (Int32.ofNat x6)), some (.int x7), some (.int x8), some (.int x9), some (.int x10), some (.int (Int32.ofNat x11))] [.int x8, .int x7, .int (Int32.ofNat x1), .ref 75] 4 (fun f => rfl) ?_
      refine zW_fg (L' := [some (.ref 75), some (.int (Int32.ofNat x1)), none, none, none, none, some (.int (Int32.ofNat x6)), some (.int x7), some (.int x8), none, none, none]) (zle_s _ (zle_s _ (zle_s _ (zle_s _ (zle_s _ (zle_s _ (zle_s _ (zle_s _ (zle_s _ (zle_n _ (zle_n _ (zle_n _ zle_nil)))))))))))) ?_
      exact zW_cl rfl rfl rfl rfl rfl H
    · have c9 : (zzr x7 x8) = true := ((Bool.not_eq_false' _).mp ((zcB_eq _).symm.trans c))
      replace H := H.2 c9
      refine zW_gh 139 [some (.ref 75), some (.int (Int32.ofNat x1)), none, none, none, none, some (.int (Int32.ofNat x6)), some (.int x7), some (.int x8), some (.int x9), some (.int x10), some (.int (Int32.ofNat x11))] [.int (0 : Int32)] 1 (fun f => rfl) ?_
      exact zW_rh (some (.int (0 : Int32))) 1 (fun f => rfl) H
  · have c9 : x11 < 1000 := (Nat.lt_of_not_le (of_decide_eq_false ((zcN_ge (a := x11) (b := 1000) rfl rfl h1 (by decide)).symm.trans c)))
    replace H := H.2 c9
    refine zW_gh 83 [some (.ref 75), some (.int (Int32.ofNat x1)), none, none, none, none, some (.int (Int32.ofNat x6)), some (.int x7), some (.int x8), some (.int x9), some (.int x10), some (.int (Int32.ofNat x11))] [.int x10, .int x9] 2 (fun f => rfl) ?_
    refine zW_cl rfl rfl rfl rfl rfl (s186 ?_)
    change zW zm_223 86 [some (.ref 75), some (.int (Int32.ofNat x1)), none, none, none, none, some (.int (Int32.ofNat x6)), some (.int x7), some (.int x8), some (.int x9), some (.int x10), some (.int (Int32.ofNat x11))] [.int (zbi (zzr x9 x10))] p _ Q
    refine zW_bh (zcmp .ne (zbi (zzr x9 x10)) (0 : Int32)) 128 89 [some (.ref 75), some (.int (Int32.ofNat x1)), none, none, none, none, some (.int (Int32.ofNat x6)), some (.int x7), some (.int x8), some (.int x9), some (.int x10), some (.int (Int32.ofNat x11))] [] 1 (fun f => rfl) (fun c => ?_) (fun c => ?_)
    · have c9 : (zzr x9 x10) = true := ((zcB_ne _).symm.trans c)
      replace H := H.1 c9
      refine zW_gh 132 [some (.ref 75), some (.int (Int32.ofNat x1)), none, none, none, none, some (.int (Int32.ofNat x6)), some (.int x7), some (.int x8), some (.int x9), some (.int x10), some (.int (Int32.ofNat x11))] [.int x8, .int x7] 2 (fun f => rfl) ?_
      refine zW_cl rfl rfl rfl rfl rfl (s186 ?_)
      change zW zm_223 135 [some (.ref 75), some (.int (Int32.ofNat x1)), none, none, none, none, some (.int (Int32.ofNat x6)), some (.int x7), some (.int x8), some (.int x9), some (.int x10), some (.int (Int32.ofNat x11))] [.int (zbi (zzr x7 x8))] p _ Q
      refine zW_bh (zcmp .eq (zbi (zzr x7 x8)) (0 : Int32)) 140 138 [some (.ref 75), some (.int (Int32.ofNat x1)), none, none, none, none, some (.int (Int32.ofNat x6)), some (.int x7), some (.int x8), some (.int x9), some (.int x10), some (.int (Int32.ofNat x11))] [] 1 (fun f => rfl) (fun c => ?_) (fun c => ?_)
      · have c9 : (zzr x7 x8) = false := ((Bool.not_eq_true' _).mp ((zcB_eq _).symm.trans c))
        replace H := H.1 c9
        refine zW_gh 146 [some (.ref 75), some (.int (Int32.ofNat x1)), none, none, none, none, some (.int (Int32.ofNat x6)), some (.int x7), some (.int x8), some (.int x9), some (.int x10), some (.int (Int32.ofNat x11))] [.int x8, .int x7, .int (Int32.ofNat x1), .ref 75] 4 (fun f => rfl) ?_
        refine zW_fg (L' := [some (.ref 75), some (.int (Int32.ofNat x1)), none, none, none, none, some (.int (Int32.ofNat x6)), some (.int x7), some (.int x8), none, none, none]) (zle_s _ (zle_s _ (zle_s _ (zle_s _ (zle_s _ (zle_s _ (zle_s _ (zle_s _ (zle_s _ (zle_n _ (zle_n _ (zle_n _ zle_nil)))))))))))) ?_
        exact zW_cl rfl rfl rfl rfl rfl H
      · have c9 : (zzr x7 x8) = true := ((Bool.not_eq_false' _).mp ((zcB_eq _).symm.trans c))
        replace H := H.2 c9
        refine zW_gh 139 [some (.ref 75), some (.int (Int32.ofNat x1)), none, none, none, none, some (.int (Int32.ofNat x6)), some (.int x7), some (.int x8), some (.int x9), some (.int x10), some (.int (Int32.ofNat x11))] [.int (0 : Int32)] 1 (fun f => rfl) ?_
        exact zW_rh (some (.int (0 : Int32))) 1 (fun f => rfl) H
    · have c9 : (zzr x9 x10) = false := ((zcB_ne _).symm.trans c)
      replace H := H.2 c9
      refine zW_gh 99 [some (.ref 75), some (.int (Int32.ofNat x1)), none, none, none, none, some (.int (Int32.ofNat x6)), some (.int x7), some (.int x8), some (.int x9), some (.int x10), some (.int (Int32.ofNat x11))] [.int x10, .int x9, .int x8, .int x7, .int (Int32.ofNat x1), .ref 75] 6 (fun f => rfl) ?_
      refine zW_fg (L' := [some (.ref 75), some (.int (Int32.ofNat x1)), none, none, none, none, some (.int (Int32.ofNat x6)), none, none, some (.int x9), some (.int x10), some (.int (Int32.ofNat x11))]) (zle_s _ (zle_s _ (zle_s _ (zle_s _ (zle_s _ (zle_s _ (zle_s _ (zle_n _ (zle_n _ (zle_s _ (zle_s _ (zle_s _ zle_nil)))))))))))) ?_
      exact zW_cl rfl rfl rfl rfl rfl H
set_option maxRecDepth 20000 in
theorem b223_149 {K : zKt} {code rf rs pr pn : Int32} {bad : Bool} {J : zJt} {m pa pb pc vf vs : Nat → Int32} {B : zBt} {w : Nat → Int64} {p : Nat × Nat} {Q : zR → zH → Prop} {x1 x6 : Nat} {x7 x8 : Int32} (H : zT zm_157 [.ref 75, .int (Int32.ofNat x1), .int (0 : Int32), .int (0 : Int32), .int rf, .int rs, .int x7, .int x8] p (zh K (code, rf, rs, bad, pr, pn, J) (m, pa, pb, pc, vf, vs, B) w) (zK zm_223 168 [some (.ref 75), none, none, none, none, none, some (.int (Int32.ofNat x6)), none, none, none, none, none] [] p Q)) : zW zm_223 149 [some (.ref 75), some (.int (Int32.ofNat x1)), none, none, none, none, some (.int (Int32.ofNat x6)), some (.int x7), some (.int x8), none, none, none] [] p (zh K (code, rf, rs, bad, pr, pn, J) (m, pa, pb, pc, vf, vs, B) w) Q := by
  refine zW_gh 163 [some (.ref 75), some (.int (Int32.ofNat x1)), none, none, none, none, some (.int (Int32.ofNat x6)), some (.int x7), some (.int x8), none, none, none] [.int x7, .int rs, .int rf, .int (0 : Int32), .int (0 : Int32), .int (Int32.ofNat x1), .ref 75] 9 (fun f => rfl) ?_
  refine zW_gh 165 [some (.ref 75), some (.int (Int32.ofNat x1)), none, none, none, none, some (.int (Int32.ofNat x6)), some (.int x7), some (.int x8), none, none, none] [.int x8, .int x7, .int rs, .int rf, .int (0 : Int32), .int (0 : Int32), .int (Int32.ofNat x1), .ref 75] 1 (fun f => rfl) ?_
  refine zW_fg (L' := [some (.ref 75), none, none, none, none, none, some (.int (Int32.ofNat x6)), none, none, none, none, none]) (zle_s _ (zle_n _ (zle_s _ (zle_s _ (zle_s _ (zle_s _ (zle_s _ (zle_n _ (zle_n _ (zle_s _ (zle_s _ (zle_s _ zle_nil)))))))))))) ?_
  exact zW_cl rfl rfl rfl rfl rfl H
set_option maxRecDepth 20000 in
theorem b223_102 {K : zKt} {code rf rs pr pn : Int32} {bad : Bool} {J : zJt} {m pa pb pc vf vs : Nat → Int32} {B : zBt} {w : Nat → Int64} {p : Nat × Nat} {Q : zR → zH → Prop} {x1 x6 x11 : Nat} {x9 x10 : Int32} (H : zW zm_223 71 [some (.ref 75), some (.int (Int32.ofNat x1)), none, none, none, none, some (.int (Int32.ofNat x6)), some (.int x9), some (.int x10), some (.int rf), some (.int rs), some (.int (Int32.ofNat (x11 + 1)))] [] p (zh K (code, rf, rs, bad, pr, pn, J) (m, pa, pb, pc, vf, vs, B) w) Q) : zW zm_223 102 [some (.ref 75), some (.int (Int32.ofNat x1)), none, none, none, none, some (.int (Int32.ofNat x6)), none, none, some (.int x9), some (.int x10), some (.int (Int32.ofNat x11))] [] p (zh K (code, rf, rs, bad, pr, pn, J) (m, pa, pb, pc, vf, vs, B) w) Q := by
  refine zW_gh 120 [some (.ref 75), some (.int (Int32.ofNat x1)), none, none, none, none, some (.int (Int32.ofNat x6)), some (.int x9), some (.int x10), some (.int rf), some (.int x10), some (.int (Int32.ofNat x11))] [.int rs] 9 (fun f => rfl) ?_
  refine zW_gh 122 [some (.ref 75), some (.int (Int32.ofNat x1)), none, none, none, none, some (.int (Int32.ofNat x6)), some (.int x9), some (.int x10), some (.int rf), some (.int rs), some (.int (Int32.ofNat x11))] [] 1 (fun f => rfl) ?_
  refine zW_inc [some (.ref 75), some (.int (Int32.ofNat x1)), none, none, none, none, some (.int (Int32.ofNat x6)), some (.int x9), some (.int x10), some (.int rf), some (.int rs), some (.int ((Int32.ofNat x11) + (1 : Int32)))] rfl rfl rfl ?_
  rw [show ((Int32.ofNat x11) + (1 : Int32)) = Int32.ofNat (x11 + 1) from (zN_a rfl rfl)]
  refine zW_gh 71 [some (.ref 75), some (.int (Int32.ofNat x1)), none, none, none, none, some (.int (Int32.ofNat x6)), some (.int x9), some (.int x10), some (.int rf), some (.int rs), some (.int (Int32.ofNat (x11 + 1)))] [] 1 (fun f => rfl) ?_
  exact H
set_option maxRecDepth 20000 in
theorem b223_168 {K : zKt} {code rf rs pr pn : Int32} {bad : Bool} {J : zJt} {m pa pb pc vf vs : Nat → Int32} {B : zBt} {w : Nat → Int64} {p : Nat × Nat} {Q : zR → zH → Prop} {x6 : Nat} (H : (x6 < 2147483648 ∧ ((¬ x6 = 0 → Q (.inl (some (.int rs))) (zh K (code, rf, rs, bad, pr, pn, J) (m, pa, pb, pc, vf, vs, B) w)) ∧ (x6 = 0 → Q (.inl (some (.int rf))) (zh K (code, rf, rs, bad, pr, pn, J) (m, pa, pb, pc, vf, vs, B) w))))) : zW zm_223 168 [some (.ref 75), none, none, none, none, none, some (.int (Int32.ofNat x6)), none, none, none, none, none] [] p (zh K (code, rf, rs, bad, pr, pn, J) (m, pa, pb, pc, vf, vs, B) w) Q := by
  obtain ⟨h1, H⟩ := H
  refine zW_bh (zcmp .ne (Int32.ofNat x6) (0 : Int32)) 180 173 [some (.ref 75), none, none, none, none, none, some (.int (Int32.ofNat x6)), none, none, none, none, none] [] 2 (fun f => rfl) (fun c => ?_) (fun c => ?_)
  · have c9 : ¬ x6 = 0 := (by have c := (zcN_ne (a := x6) (b := 0) rfl rfl h1 (by decide)).symm.trans c; simpa using c)
    replace H := H.1 c9
    refine zW_gh 184 [some (.ref 75), none, none, none, none, none, some (.int (Int32.ofNat x6)), none, none, none, none, none] [.int rs] 2 (fun f => rfl) ?_
    exact zW_rh (some (.int rs)) 1 (fun f => rfl) H
  · have c9 : x6 = 0 := (by have c := (zcN_ne (a := x6) (b := 0) rfl rfl h1 (by decide)).symm.trans c; simpa using c)
    replace H := H.2 c9
    refine zW_gh 184 [some (.ref 75), none, none, none, none, none, some (.int (Int32.ofNat x6)), none, none, none, none, none] [.int rf] 3 (fun f => rfl) ?_
    exact zW_rh (some (.int rf)) 1 (fun f => rfl) H
