theorem b224 {K : zKt} {code rf rs pr pn ef es : Int32} {bad fin : Bool} {len plc rr rc om : Nat} {m pa pb pc vf vs tx rd ou : Nat → Int32} {w : Nat → Int64} {p : Nat × Nat} {Q : zR → zH → Prop} {a0 : Int32} (H : (((zin ((a0).toInt64) (0 : Int64) (255 : Int64)) = true → ∀ k_a0, 0 ≤ k_a0 ∧ k_a0 ≤ 255 → a0 = Int32.ofNat k_a0 → (len < 2147483648 ∧ ((¬ len = 120 → (len < 120 ∧ Q (.inl (some (.int (Int32.ofNat (len + 1))))) (zh K ((0 : Int32), rf, rs, bad, pr, pn, (len + 1), plc, fin, ef, es, rr, rc, om) (m, pa, pb, pc, vf, vs, (va_up tx len (Int32.ofNat k_a0)), rd, ou) w))) ∧ (len = 120 → Q (.inl (some (.int (0 : Int32)))) (zh K ((2 : Int32), rf, rs, bad, pr, pn, len, plc, fin, ef, es, rr, rc, om) (m, pa, pb, pc, vf, vs, tx, rd, ou) w))))) ∧ ((zin ((a0).toInt64) (0 : Int64) (255 : Int64)) = false → Q (.inl (some (.int (0 : Int32)))) (zh K ((1 : Int32), rf, rs, bad, pr, pn, len, plc, fin, ef, es, rr, rc, om) (m, pa, pb, pc, vf, vs, tx, rd, ou) w)))) : zT zm_224 [.ref 75, .int a0] p (zh K (code, rf, rs, bad, pr, pn, len, plc, fin, ef, es, rr, rc, om) (m, pa, pb, pc, vf, vs, tx, rd, ou) w) Q := by
  change zW zm_224 0 [some (.ref 75), some (.int a0)] [] p _ Q
  refine zW_gh 2 [some (.ref 75), some (.int a0)] [.int (0 : Int32), .ref 75] 2 (fun f => rfl) ?_
  refine zW_go (pc' := 5) (L' := [some (.ref 75), some (.int a0)]) (st' := []) (h' := (va_up (zh K (code, rf, rs, bad, pr, pn, len, plc, fin, ef, es, rr, rc, om) (m, pa, pb, pc, vf, vs, tx, rd, ou) w) 75 (.inr (7, zfl ((0 : Int32), rf, rs, bad, pr, pn, len, plc, fin, ef, es, rr, rc, om))))) 1 (fun f => rfl) ?_
  refine zW_eq zu_75 ?_
  refine zW_gh 11 [some (.ref 75), some (.int a0)] [.long (255 : Int64), .long (0 : Int64), .long ((a0).toInt64)] 4 (fun f => rfl) ?_
  refine zW_cl rfl rfl rfl rfl rfl (s141 ?_)
  change zW zm_224 14 [some (.ref 75), some (.int a0)] [.int (zbi (zin ((a0).toInt64) (0 : Int64) (255 : Int64)))] p _ Q
  refine zW_bh (zcmp .ne (zbi (zin ((a0).toInt64) (0 : Int64) (255 : Int64))) (0 : Int32)) 23 17 [some (.ref 75), some (.int a0)] [] 1 (fun f => rfl) (fun c => ?_) (fun c => ?_)
  · have c9 : (zin ((a0).toInt64) (0 : Int64) (255 : Int64)) = true := ((zcB_ne _).symm.trans c)
    replace H := H.1 c9
    obtain ⟨k_a0, h_k_a0, e_k_a0⟩ := zin_k (l := 0) (h := 255) (by decide) (by decide) c9
    replace H := H k_a0 h_k_a0 e_k_a0
    subst e_k_a0
    obtain ⟨h1, H⟩ := H
    refine zW_bh (zcmp .ne (Int32.ofNat len) (120 : Int32)) 38 32 [some (.ref 75), some (.int (Int32.ofNat k_a0))] [] 4 (fun f => rfl) (fun c => ?_) (fun c => ?_)
    · have c9 : ¬ len = 120 := (by have c := (zcN_ne (a := len) (b := 120) rfl rfl h1 (by decide)).symm.trans c; simpa using c)
      replace H := H.1 c9
      refine zW_gh 47 [some (.ref 75), some (.int (Int32.ofNat k_a0))] [.int (Int32.ofNat k_a0), .int (Int32.ofNat len), .ref 82] 5 (fun f => rfl) ?_
      obtain ⟨h2, H⟩ := H
      refine zW_iast rfl (by decide) rfl (by decide) zu_82 rfl h2 ?_
      refine zW_gh 55 [some (.ref 75), some (.int (Int32.ofNat k_a0))] [.int ((Int32.ofNat len) + (1 : Int32)), .ref 75] 5 (fun f => rfl) ?_
      rw [show ((Int32.ofNat len) + (1 : Int32)) = Int32.ofNat (len + 1) from (zN_a rfl rfl)]
      refine zW_go (pc' := 58) (L' := [some (.ref 75), some (.int (Int32.ofNat k_a0))]) (st' := []) (h' := (va_up (zh K ((0 : Int32), rf, rs, bad, pr, pn, len, plc, fin, ef, es, rr, rc, om) (m, pa, pb, pc, vf, vs, (va_up tx len (Int32.ofNat k_a0)), rd, ou) w) 75 (.inr (7, zfl ((0 : Int32), rf, rs, bad, pr, pn, (len + 1), plc, fin, ef, es, rr, rc, om))))) 1 (fun f => rfl) ?_
      refine zW_eq zu_75 ?_
      refine zW_gh 62 [some (.ref 75), some (.int (Int32.ofNat k_a0))] [.int (Int32.ofNat (len + 1))] 2 (fun f => rfl) ?_
      exact zW_rh (some (.int (Int32.ofNat (len + 1)))) 1 (fun f => rfl) H
    · have c9 : len = 120 := (by have c := (zcN_ne (a := len) (b := 120) rfl rfl h1 (by decide)).symm.trans c; simpa using c)
      replace H := H.2 c9
      refine zW_gh 34 [some (.ref 75), some (.int (Int32.ofNat k_a0))] [.int (2 : Int32), .ref 75] 2 (fun f => rfl) ?_
      refine zW_cl rfl rfl rfl rfl rfl (s142 ?_)
      change zW zm_224 37 [some (.ref 75), some (.int (Int32.ofNat k_a0))] [.int (0 : Int32)] p _ Q
      exact zW_rh (some (.int (0 : Int32))) 1 (fun f => rfl) H
  · have c9 : (zin ((a0).toInt64) (0 : Int64) (255 : Int64)) = false := ((zcB_ne _).symm.trans c)
    replace H := H.2 c9
    refine zW_gh 19 [some (.ref 75), some (.int a0)] [.int (1 : Int32), .ref 75] 2 (fun f => rfl) ?_
    refine zW_cl rfl rfl rfl rfl rfl (s142 ?_)
    change zW zm_224 22 [some (.ref 75), some (.int a0)] [.int (0 : Int32)] p _ Q
    exact zW_rh (some (.int (0 : Int32))) 1 (fun f => rfl) H
theorem b225 {K : zKt} {code rf rs pr pn ef es : Int32} {bad fin : Bool} {len plc rr rc om : Nat} {m pa pb pc vf vs tx rd ou : Nat → Int32} {w : Nat → Int64} {p : Nat × Nat} {Q : zR → zH → Prop} (H : Q (.inl (some (.int (Int32.ofNat len)))) (zh K ((0 : Int32), rf, rs, bad, pr, pn, 0, plc, fin, ef, es, rr, rc, om) (m, pa, pb, pc, vf, vs, tx, rd, ou) w)) : zT zm_225 [.ref 75] p (zh K (code, rf, rs, bad, pr, pn, len, plc, fin, ef, es, rr, rc, om) (m, pa, pb, pc, vf, vs, tx, rd, ou) w) Q := by
  change zW zm_225 0 [some (.ref 75), none] [] p _ Q
  refine zW_gh 2 [some (.ref 75), none] [.int (0 : Int32), .ref 75] 2 (fun f => rfl) ?_
  refine zW_go (pc' := 5) (L' := [some (.ref 75), none]) (st' := []) (h' := (va_up (zh K (code, rf, rs, bad, pr, pn, len, plc, fin, ef, es, rr, rc, om) (m, pa, pb, pc, vf, vs, tx, rd, ou) w) 75 (.inr (7, zfl ((0 : Int32), rf, rs, bad, pr, pn, len, plc, fin, ef, es, rr, rc, om))))) 1 (fun f => rfl) ?_
  refine zW_eq zu_75 ?_
  refine zW_gh 12 [some (.ref 75), some (.int (Int32.ofNat len))] [.int (0 : Int32), .ref 75] 5 (fun f => rfl) ?_
  refine zW_go (pc' := 15) (L' := [some (.ref 75), some (.int (Int32.ofNat len))]) (st' := []) (h' := (va_up (zh K ((0 : Int32), rf, rs, bad, pr, pn, len, plc, fin, ef, es, rr, rc, om) (m, pa, pb, pc, vf, vs, tx, rd, ou) w) 75 (.inr (7, zfl ((0 : Int32), rf, rs, bad, pr, pn, 0, plc, fin, ef, es, rr, rc, om))))) 1 (fun f => rfl) ?_
  refine zW_eq zu_75 ?_
  refine zW_gh 16 [some (.ref 75), some (.int (Int32.ofNat len))] [.int (Int32.ofNat len)] 1 (fun f => rfl) ?_
  exact zW_rh (some (.int (Int32.ofNat len))) 1 (fun f => rfl) H
theorem b233 {K : zKt} {code rf rs pr pn ef es : Int32} {bad fin : Bool} {len plc rr rc om : Nat} {m pa pb pc vf vs tx rd ou : Nat → Int32} {w : Nat → Int64} {p : Nat × Nat} {Q : zR → zH → Prop} (H : (len ≤ 120 ∧ (plc < 2147483648 ∧ (((zhere tx len plc (45 : Int32)) = false → Q (.inl (some (.int (zbi (zhere tx len plc (45 : Int32)))))) (zh K (code, rf, rs, bad, pr, pn, len, (plc + 0), fin, ef, es, rr, rc, om) (m, pa, pb, pc, vf, vs, tx, rd, ou) w)) ∧ ((zhere tx len plc (45 : Int32)) = true → Q (.inl (some (.int (zbi (zhere tx len plc (45 : Int32)))))) (zh K (code, rf, rs, bad, pr, pn, len, (plc + 1), fin, ef, es, rr, rc, om) (m, pa, pb, pc, vf, vs, tx, rd, ou) w)))))) : zT zm_233 [.ref 75] p (zh K (code, rf, rs, bad, pr, pn, len, plc, fin, ef, es, rr, rc, om) (m, pa, pb, pc, vf, vs, tx, rd, ou) w) Q := by
  change zW zm_233 0 [some (.ref 75), none] [] p _ Q
  refine zW_gh 3 [some (.ref 75), none] [.int (45 : Int32), .ref 75] 2 (fun f => rfl) ?_
  obtain ⟨h1, H⟩ := H
  obtain ⟨h2, H⟩ := H
  refine zW_cl rfl rfl rfl rfl rfl (s228 h1 h2 ?_)
  change zW zm_233 6 [some (.ref 75), none] [.int (zbi (zhere tx len plc (45 : Int32)))] p _ Q
  refine zW_bh (zcmp .eq (zbi (zhere tx len plc (45 : Int32))) (0 : Int32)) 20 16 [some (.ref 75), some (.int (zbi (zhere tx len plc (45 : Int32))))] [.int (Int32.ofNat plc), .ref 75] 6 (fun f => rfl) (fun c => ?_) (fun c => ?_)
  · have c9 : (zhere tx len plc (45 : Int32)) = false := ((Bool.not_eq_true' _).mp ((zcB_eq _).symm.trans c))
    replace H := H.1 c9
    refine zW_gh 22 [some (.ref 75), some (.int (zbi (zhere tx len plc (45 : Int32))))] [.int ((Int32.ofNat plc) + (0 : Int32)), .ref 75] 2 (fun f => rfl) ?_
    rw [show ((Int32.ofNat plc) + (0 : Int32)) = Int32.ofNat (plc + 0) from (zN_a rfl rfl)]
    refine zW_go (pc' := 25) (L' := [some (.ref 75), some (.int (zbi (zhere tx len plc (45 : Int32))))]) (st' := []) (h' := (va_up (zh K (code, rf, rs, bad, pr, pn, len, plc, fin, ef, es, rr, rc, om) (m, pa, pb, pc, vf, vs, tx, rd, ou) w) 75 (.inr (7, zfl (code, rf, rs, bad, pr, pn, len, (plc + 0), fin, ef, es, rr, rc, om))))) 1 (fun f => rfl) ?_
    refine zW_eq zu_75 ?_
    refine zW_gh 26 [some (.ref 75), some (.int (zbi (zhere tx len plc (45 : Int32))))] [.int (zbi (zhere tx len plc (45 : Int32)))] 1 (fun f => rfl) ?_
    exact zW_rh (some (.int (zbi (zhere tx len plc (45 : Int32))))) 1 (fun f => by generalize (zhere tx len plc (45 : Int32)) = bb; cases bb <;> rfl) H
  · have c9 : (zhere tx len plc (45 : Int32)) = true := ((Bool.not_eq_false' _).mp ((zcB_eq _).symm.trans c))
    replace H := H.2 c9
    refine zW_gh 22 [some (.ref 75), some (.int (zbi (zhere tx len plc (45 : Int32))))] [.int ((Int32.ofNat plc) + (1 : Int32)), .ref 75] 3 (fun f => rfl) ?_
    rw [show ((Int32.ofNat plc) + (1 : Int32)) = Int32.ofNat (plc + 1) from (zN_a rfl rfl)]
    refine zW_go (pc' := 25) (L' := [some (.ref 75), some (.int (zbi (zhere tx len plc (45 : Int32))))]) (st' := []) (h' := (va_up (zh K (code, rf, rs, bad, pr, pn, len, plc, fin, ef, es, rr, rc, om) (m, pa, pb, pc, vf, vs, tx, rd, ou) w) 75 (.inr (7, zfl (code, rf, rs, bad, pr, pn, len, (plc + 1), fin, ef, es, rr, rc, om))))) 1 (fun f => rfl) ?_
    refine zW_eq zu_75 ?_
    refine zW_gh 26 [some (.ref 75), some (.int (zbi (zhere tx len plc (45 : Int32))))] [.int (zbi (zhere tx len plc (45 : Int32)))] 1 (fun f => rfl) ?_
    exact zW_rh (some (.int (zbi (zhere tx len plc (45 : Int32))))) 1 (fun f => by generalize (zhere tx len plc (45 : Int32)) = bb; cases bb <;> rfl) H
theorem b234 {K : zKt} {code rf rs pr pn ef es : Int32} {bad fin : Bool} {len plc rr rc om : Nat} {m pa pb pc vf vs tx rd ou : Nat → Int32} {w : Nat → Int64} {p : Nat × Nat} {Q : zR → zH → Prop} {a0 : Int32} {a1 : Int64} (H : zW zm_234 9 [some (.ref 75), some (.int a0), some (.long a1), none, some (.int (Int32.ofNat plc)), some (.long (0 : Int64)), none] [] p (zh K (code, rf, rs, bad, pr, pn, len, plc, fin, ef, es, rr, rc, om) (m, pa, pb, pc, vf, vs, tx, rd, ou) w) Q) : zT zm_234 [.ref 75, .int a0, .long a1] p (zh K (code, rf, rs, bad, pr, pn, len, plc, fin, ef, es, rr, rc, om) (m, pa, pb, pc, vf, vs, tx, rd, ou) w) Q := by
  change zW zm_234 0 [some (.ref 75), some (.int a0), some (.long a1), none, none, none, none] [] p _ Q
  refine zW_gh 9 [some (.ref 75), some (.int a0), some (.long a1), none, some (.int (Int32.ofNat plc)), some (.long (0 : Int64)), none] [] 5 (fun f => rfl) ?_
  exact H
theorem b234_9 {K : zKt} {code rf rs pr pn ef es : Int32} {bad fin : Bool} {len plc rr rc om : Nat} {m pa pb pc vf vs tx rd ou : Nat → Int32} {w : Nat → Int64} {p : Nat × Nat} {Q : zR → zH → Prop} {x4 : Nat} {x1 : Int32} {x2 x5 : Int64} (H : (len ≤ 120 ∧ (plc < 2147483648 ∧ (((zdgh tx len plc) = false → (plc < 2147483648 ∧ (x4 < 2147483648 ∧ ((plc = x4 → Q (.inl (some (.int (0 : Int32)))) (zh K (code, rf, rs, bad, pr, pn, len, x4, false, ef, es, rr, rc, om) (m, pa, pb, pc, vf, vs, tx, rd, ou) w)) ∧ (¬ plc = x4 → ((x1 < ((Int32.ofNat plc) - (Int32.ofNat x4)) → Q (.inl (some (.int (0 : Int32)))) (zh K (code, rf, rs, bad, pr, pn, len, x4, false, ef, es, rr, rc, om) (m, pa, pb, pc, vf, vs, tx, rd, ou) w)) ∧ (¬ x1 < ((Int32.ofNat plc) - (Int32.ofNat x4)) → ((x5 ≤ x2 → Q (.inl (some (.int (x5.toInt32)))) (zh K (code, rf, rs, bad, pr, pn, len, plc, fin, ef, es, rr, rc, om) (m, pa, pb, pc, vf, vs, tx, rd, ou) w)) ∧ (¬ x5 ≤ x2 → Q (.inl (some (.int (0 : Int32)))) (zh K (code, rf, rs, bad, pr, pn, len, x4, false, ef, es, rr, rc, om) (m, pa, pb, pc, vf, vs, tx, rd, ou) w)))))))))) ∧ ((zdgh tx len plc) = true → (((11 : Int32) ≤ ((Int32.ofNat plc) - (Int32.ofNat x4)) → zW zm_234 9 [some (.ref 75), some (.int x1), some (.long x2), none, some (.int (Int32.ofNat x4)), some (.long x5), none] [] p (zh K (code, rf, rs, bad, pr, pn, len, (plc + 1), fin, ef, es, rr, rc, om) (m, pa, pb, pc, vf, vs, tx, rd, ou) w) Q) ∧ (¬ (11 : Int32) ≤ ((Int32.ofNat plc) - (Int32.ofNat x4)) → (plc < 120 ∧ zW zm_234 9 [some (.ref 75), some (.int x1), some (.long x2), none, some (.int (Int32.ofNat x4)), some (.long ((((10 : Int64) * x5) + (((tx plc)).toInt64)) - (48 : Int64))), none] [] p (zh K (code, rf, rs, bad, pr, pn, len, (plc + 1), fin, ef, es, rr, rc, om) (m, pa, pb, pc, vf, vs, tx, rd, ou) w) Q)))))))) : zW zm_234 9 [some (.ref 75), some (.int x1), some (.long x2), none, some (.int (Int32.ofNat x4)), some (.long x5), none] [] p (zh K (code, rf, rs, bad, pr, pn, len, plc, fin, ef, es, rr, rc, om) (m, pa, pb, pc, vf, vs, tx, rd, ou) w) Q := by
  refine zW_gh 10 [some (.ref 75), some (.int x1), some (.long x2), none, some (.int (Int32.ofNat x4)), some (.long x5), none] [.ref 75] 1 (fun f => rfl) ?_
  obtain ⟨h1, H⟩ := H
  obtain ⟨h2, H⟩ := H
  refine zW_cl rfl rfl rfl rfl rfl (s235 h1 h2 ?_)
  change zW zm_234 13 [some (.ref 75), some (.int x1), some (.long x2), none, some (.int (Int32.ofNat x4)), some (.long x5), none] [.int (zbi (zdgh tx len plc))] p _ Q
  refine zW_bh (zcmp .eq (zbi (zdgh tx len plc)) (0 : Int32)) 69 16 [some (.ref 75), some (.int x1), some (.long x2), none, some (.int (Int32.ofNat x4)), some (.long x5), none] [] 1 (fun f => rfl) (fun c => ?_) (fun c => ?_)
  · have c9 : (zdgh tx len plc) = false := ((Bool.not_eq_true' _).mp ((zcB_eq _).symm.trans c))
    replace H := H.1 c9
    obtain ⟨h3, H⟩ := H
    obtain ⟨h4, H⟩ := H
    refine zW_bh (zcmp .eq (Int32.ofNat plc) (Int32.ofNat x4)) 96 78 [some (.ref 75), some (.int x1), some (.long x2), none, some (.int (Int32.ofNat x4)), some (.long x5), none] [] 4 (fun f => rfl) (fun c => ?_) (fun c => ?_)
    · have c9 : plc = x4 := (of_decide_eq_true ((zcN_eq (a := plc) (b := x4) rfl rfl h3 h4).symm.trans c))
      replace H := H.1 c9
      refine zW_gh 99 [some (.ref 75), some (.int x1), some (.long x2), none, some (.int (Int32.ofNat x4)), some (.long x5), none] [.int (Int32.ofNat x4), .ref 75] 2 (fun f => rfl) ?_
      refine zW_go (pc' := 102) (L' := [some (.ref 75), some (.int x1), some (.long x2), none, some (.int (Int32.ofNat x4)), some (.long x5), none]) (st' := []) (h' := (va_up (zh K (code, rf, rs, bad, pr, pn, len, plc, fin, ef, es, rr, rc, om) (m, pa, pb, pc, vf, vs, tx, rd, ou) w) 75 (.inr (7, zfl (code, rf, rs, bad, pr, pn, len, x4, fin, ef, es, rr, rc, om))))) 1 (fun f => rfl) ?_
      refine zW_eq zu_75 ?_
      refine zW_gh 104 [some (.ref 75), some (.int x1), some (.long x2), none, some (.int (Int32.ofNat x4)), some (.long x5), none] [.int (0 : Int32), .ref 75] 2 (fun f => rfl) ?_
      refine zW_go (pc' := 107) (L' := [some (.ref 75), some (.int x1), some (.long x2), none, some (.int (Int32.ofNat x4)), some (.long x5), none]) (st' := []) (h' := (va_up (zh K (code, rf, rs, bad, pr, pn, len, x4, fin, ef, es, rr, rc, om) (m, pa, pb, pc, vf, vs, tx, rd, ou) w) 75 (.inr (7, zfl (code, rf, rs, bad, pr, pn, len, x4, false, ef, es, rr, rc, om))))) 1 (fun f => rfl) ?_
      refine zW_eq zu_75 ?_
      refine zW_gh 108 [some (.ref 75), some (.int x1), some (.long x2), none, some (.int (Int32.ofNat x4)), some (.long x5), none] [.int (0 : Int32)] 1 (fun f => rfl) ?_
      exact zW_rh (some (.int (0 : Int32))) 1 (fun f => rfl) H
    · have c9 : ¬ plc = x4 := (of_decide_eq_false ((zcN_eq (a := plc) (b := x4) rfl rfl h3 h4).symm.trans c))
      replace H := H.2 c9
      refine zW_bh (zcmp .gt ((Int32.ofNat plc) - (Int32.ofNat x4)) x1) 96 89 [some (.ref 75), some (.int x1), some (.long x2), none, some (.int (Int32.ofNat x4)), some (.long x5), none] [] 6 (fun f => rfl) (fun c => ?_) (fun c => ?_)
      · have c9 : x1 < ((Int32.ofNat plc) - (Int32.ofNat x4)) := (of_decide_eq_true c)
        replace H := H.1 c9
        refine zW_gh 99 [some (.ref 75), some (.int x1), some (.long x2), none, some (.int (Int32.ofNat x4)), some (.long x5), none] [.int (Int32.ofNat x4), .ref 75] 2 (fun f => rfl) ?_
        refine zW_go (pc' := 102) (L' := [some (.ref 75), some (.int x1), some (.long x2), none, some (.int (Int32.ofNat x4)), some (.long x5), none]) (st' := []) (h' := (va_up (zh K (code, rf, rs, bad, pr, pn, len, plc, fin, ef, es, rr, rc, om) (m, pa, pb, pc, vf, vs, tx, rd, ou) w) 75 (.inr (7, zfl (code, rf, rs, bad, pr, pn, len, x4, fin, ef, es, rr, rc, om))))) 1 (fun f => rfl) ?_
        refine zW_eq zu_75 ?_
        refine zW_gh 104 [some (.ref 75), some (.int x1), some (.long x2), none, some (.int (Int32.ofNat x4)), some (.long x5), none] [.int (0 : Int32), .ref 75] 2 (fun f => rfl) ?_
        refine zW_go (pc' := 107) (L' := [some (.ref 75), some (.int x1), some (.long x2), none, some (.int (Int32.ofNat x4)), some (.long x5), none]) (st' := []) (h' := (va_up (zh K (code, rf, rs, bad, pr, pn, len, x4, fin, ef, es, rr, rc, om) (m, pa, pb, pc, vf, vs, tx, rd, ou) w) 75 (.inr (7, zfl (code, rf, rs, bad, pr, pn, len, x4, false, ef, es, rr, rc, om))))) 1 (fun f => rfl) ?_
        refine zW_eq zu_75 ?_
        refine zW_gh 108 [some (.ref 75), some (.int x1), some (.long x2), none, some (.int (Int32.ofNat x4)), some (.long x5), none] [.int (0 : Int32)] 1 (fun f => rfl) ?_
        exact zW_rh (some (.int (0 : Int32))) 1 (fun f => rfl) H
      · have c9 : ¬ x1 < ((Int32.ofNat plc) - (Int32.ofNat x4)) := (of_decide_eq_false c)
        replace H := H.2 c9
        refine zW_bh (zcmp .le (lg_cmp x5 x2) (0 : Int32)) 109 96 [some (.ref 75), some (.int x1), some (.long x2), none, some (.int (Int32.ofNat x4)), some (.long x5), none] [] 4 (fun f => rfl) (fun c => ?_) (fun c => ?_)
        · have c9 : x5 ≤ x2 := (of_decide_eq_true ((zcL_le _ _).symm.trans c))
          replace H := H.1 c9
          refine zW_gh 112 [some (.ref 75), some (.int x1), some (.long x2), none, some (.int (Int32.ofNat x4)), some (.long x5), none] [.int (x5.toInt32)] 2 (fun f => rfl) ?_
          exact zW_rh (some (.int (x5.toInt32))) 1 (fun f => rfl) H
        · have c9 : ¬ x5 ≤ x2 := (of_decide_eq_false ((zcL_le _ _).symm.trans c))
          replace H := H.2 c9
          refine zW_gh 99 [some (.ref 75), some (.int x1), some (.long x2), none, some (.int (Int32.ofNat x4)), some (.long x5), none] [.int (Int32.ofNat x4), .ref 75] 2 (fun f => rfl) ?_
          refine zW_go (pc' := 102) (L' := [some (.ref 75), some (.int x1), some (.long x2), none, some (.int (Int32.ofNat x4)), some (.long x5), none]) (st' := []) (h' := (va_up (zh K (code, rf, rs, bad, pr, pn, len, plc, fin, ef, es, rr, rc, om) (m, pa, pb, pc, vf, vs, tx, rd, ou) w) 75 (.inr (7, zfl (code, rf, rs, bad, pr, pn, len, x4, fin, ef, es, rr, rc, om))))) 1 (fun f => rfl) ?_
          refine zW_eq zu_75 ?_
          refine zW_gh 104 [some (.ref 75), some (.int x1), some (.long x2), none, some (.int (Int32.ofNat x4)), some (.long x5), none] [.int (0 : Int32), .ref 75] 2 (fun f => rfl) ?_
          refine zW_go (pc' := 107) (L' := [some (.ref 75), some (.int x1), some (.long x2), none, some (.int (Int32.ofNat x4)), some (.long x5), none]) (st' := []) (h' := (va_up (zh K (code, rf, rs, bad, pr, pn, len, x4, fin, ef, es, rr, rc, om) (m, pa, pb, pc, vf, vs, tx, rd, ou) w) 75 (.inr (7, zfl (code, rf, rs, bad, pr, pn, len, x4, false, ef, es, rr, rc, om))))) 1 (fun f => rfl) ?_
          refine zW_eq zu_75 ?_
          refine zW_gh 108 [some (.ref 75), some (.int x1), some (.long x2), none, some (.int (Int32.ofNat x4)), some (.long x5), none] [.int (0 : Int32)] 1 (fun f => rfl) ?_
          exact zW_rh (some (.int (0 : Int32))) 1 (fun f => rfl) H
  · have c9 : (zdgh tx len plc) = true := ((Bool.not_eq_false' _).mp ((zcB_eq _).symm.trans c))
    replace H := H.2 c9
    refine zW_bh (zcmp .ge ((Int32.ofNat plc) - (Int32.ofNat x4)) (11 : Int32)) 52 28 [some (.ref 75), some (.int x1), some (.long x2), none, some (.int (Int32.ofNat x4)), some (.long x5), none] [] 6 (fun f => rfl) (fun c => ?_) (fun c => ?_)
    · have c9 : (11 : Int32) ≤ ((Int32.ofNat plc) - (Int32.ofNat x4)) := (of_decide_eq_true c)
      replace H := H.1 c9
      refine zW_gh 63 [some (.ref 75), some (.int x1), some (.long x2), none, some (.int (Int32.ofNat x4)), some (.long x5), none] [.int ((Int32.ofNat plc) + (1 : Int32)), .ref 75] 7 (fun f => rfl) ?_
      rw [show ((Int32.ofNat plc) + (1 : Int32)) = Int32.ofNat (plc + 1) from (zN_a rfl rfl)]
      refine zW_go (pc' := 66) (L' := [some (.ref 75), some (.int x1), some (.long x2), none, some (.int (Int32.ofNat x4)), some (.long x5), none]) (st' := []) (h' := (va_up (zh K (code, rf, rs, bad, pr, pn, len, plc, fin, ef, es, rr, rc, om) (m, pa, pb, pc, vf, vs, tx, rd, ou) w) 75 (.inr (7, zfl (code, rf, rs, bad, pr, pn, len, (plc + 1), fin, ef, es, rr, rc, om))))) 1 (fun f => rfl) ?_
      refine zW_eq zu_75 ?_
      refine zW_gh 9 [some (.ref 75), some (.int x1), some (.long x2), none, some (.int (Int32.ofNat x4)), some (.long x5), none] [] 1 (fun f => rfl) ?_
      exact H
    · have c9 : ¬ (11 : Int32) ≤ ((Int32.ofNat plc) - (Int32.ofNat x4)) := (of_decide_eq_false c)
      replace H := H.2 c9
      refine zW_gh 42 [some (.ref 75), some (.int x1), some (.long x2), none, some (.int (Int32.ofNat x4)), some (.long x5), none] [.int (Int32.ofNat plc), .ref 82, .long ((10 : Int64) * x5)] 7 (fun f => rfl) ?_
      obtain ⟨h5, H⟩ := H
      refine zW_iald rfl (by decide) rfl (by decide) rfl h5 ?_
      refine zW_gh 61 [some (.ref 75), some (.int x1), some (.long x2), none, some (.int (Int32.ofNat x4)), some (.long ((((10 : Int64) * x5) + (((tx plc)).toInt64)) - (48 : Int64))), none] [.int (Int32.ofNat plc), .ref 75] 9 (fun f => rfl) ?_
      refine zW_gh 63 [some (.ref 75), some (.int x1), some (.long x2), none, some (.int (Int32.ofNat x4)), some (.long ((((10 : Int64) * x5) + (((tx plc)).toInt64)) - (48 : Int64))), none] [.int ((Int32.ofNat plc) + (1 : Int32)), .ref 75] 2 (fun f => rfl) ?_
      rw [show ((Int32.ofNat plc) + (1 : Int32)) = Int32.ofNat (plc + 1) from (zN_a rfl rfl)]
      refine zW_go (pc' := 66) (L' := [some (.ref 75), some (.int x1), some (.long x2), none, some (.int (Int32.ofNat x4)), some (.long ((((10 : Int64) * x5) + (((tx plc)).toInt64)) - (48 : Int64))), none]) (st' := []) (h' := (va_up (zh K (code, rf, rs, bad, pr, pn, len, plc, fin, ef, es, rr, rc, om) (m, pa, pb, pc, vf, vs, tx, rd, ou) w) 75 (.inr (7, zfl (code, rf, rs, bad, pr, pn, len, (plc + 1), fin, ef, es, rr, rc, om))))) 1 (fun f => rfl) ?_
      refine zW_eq zu_75 ?_
      refine zW_gh 9 [some (.ref 75), some (.int x1), some (.long x2), none, some (.int (Int32.ofNat x4)), some (.long ((((10 : Int64) * x5) + (((tx plc)).toInt64)) - (48 : Int64))), none] [] 1 (fun f => rfl) ?_
      exact H
theorem b232 {K : zKt} {code rf rs pr pn ef es : Int32} {bad fin : Bool} {len plc rr rc om : Nat} {m pa pb pc vf vs tx rd ou : Nat → Int32} {w : Nat → Int64} {p : Nat × Nat} {Q : zR → zH → Prop} (H : zT zm_233 [.ref 75] p (zh K (code, rf, rs, bad, pr, pn, len, plc, fin, ef, es, rr, rc, om) (m, pa, pb, pc, vf, vs, tx, rd, ou) w) (zK zm_232 4 [some (.ref 75), none, none] [] p Q)) : zT zm_232 [.ref 75] p (zh K (code, rf, rs, bad, pr, pn, len, plc, fin, ef, es, rr, rc, om) (m, pa, pb, pc, vf, vs, tx, rd, ou) w) Q := by
  change zW zm_232 0 [some (.ref 75), none, none] [] p _ Q
  refine zW_gh 1 [some (.ref 75), none, none] [.ref 75] 1 (fun f => rfl) ?_
  exact zW_cl rfl rfl rfl rfl rfl H
theorem b232_4 {K : zKt} {code rf rs pr pn ef es : Int32} {bad fin : Bool} {len plc rr rc om : Nat} {m pa pb pc vf vs tx rd ou : Nat → Int32} {w : Nat → Int64} {p : Nat × Nat} {Q : zR → zH → Prop} {rv : Bool} (H : zT zm_234 [.ref 75, .int (10 : Int32), .long (1000000000 : Int64)] p (zh K (code, rf, rs, bad, pr, pn, len, plc, fin, ef, es, rr, rc, om) (m, pa, pb, pc, vf, vs, tx, rd, ou) w) (zK zm_232 14 [some (.ref 75), some (.int (zbi rv)), none] [] p Q)) : zW zm_232 4 [some (.ref 75), none, none] [.int (zbi rv)] p (zh K (code, rf, rs, bad, pr, pn, len, plc, fin, ef, es, rr, rc, om) (m, pa, pb, pc, vf, vs, tx, rd, ou) w) Q := by
  refine zW_gh 11 [some (.ref 75), some (.int (zbi rv)), none] [.long (1000000000 : Int64), .int (10 : Int32), .ref 75] 4 (fun f => rfl) ?_
  exact zW_cl rfl rfl rfl rfl rfl H
theorem b232_14 {K : zKt} {code rf rs pr pn ef es : Int32} {bad fin : Bool} {len plc rr rc om : Nat} {m pa pb pc vf vs tx rd ou : Nat → Int32} {w : Nat → Int64} {p : Nat × Nat} {Q : zR → zH → Prop} {rv : Int32} {x1 : Bool} (H : ((x1 = false → Q (.inl none) (zh K (code, rf, rs, bad, pr, pn, len, plc, fin, rv, (0 : Int32), rr, rc, om) (m, pa, pb, pc, vf, vs, tx, rd, ou) w)) ∧ (x1 = true → Q (.inl none) (zh K (code, rf, rs, bad, pr, pn, len, plc, fin, (-rv), (0 : Int32), rr, rc, om) (m, pa, pb, pc, vf, vs, tx, rd, ou) w)))) : zW zm_232 14 [some (.ref 75), some (.int (zbi x1)), none] [.int rv] p (zh K (code, rf, rs, bad, pr, pn, len, plc, fin, ef, es, rr, rc, om) (m, pa, pb, pc, vf, vs, tx, rd, ou) w) Q := by
  refine zW_bh (zcmp .eq (zbi x1) (0 : Int32)) 25 20 [some (.ref 75), some (.int (zbi x1)), some (.int rv)] [.ref 75] 4 (fun f => rfl) (fun c => ?_) (fun c => ?_)
  · have c9 : x1 = false := ((Bool.not_eq_true' _).mp ((zcB_eq _).symm.trans c))
    replace H := H.1 c9
    refine zW_gh 26 [some (.ref 75), some (.int (zbi x1)), some (.int rv)] [.int rv, .ref 75] 1 (fun f => rfl) ?_
    refine zW_go (pc' := 29) (L' := [some (.ref 75), some (.int (zbi x1)), some (.int rv)]) (st' := []) (h' := (va_up (zh K (code, rf, rs, bad, pr, pn, len, plc, fin, ef, es, rr, rc, om) (m, pa, pb, pc, vf, vs, tx, rd, ou) w) 75 (.inr (7, zfl (code, rf, rs, bad, pr, pn, len, plc, fin, rv, es, rr, rc, om))))) 1 (fun f => rfl) ?_
    refine zW_eq zu_75 ?_
    refine zW_gh 31 [some (.ref 75), some (.int (zbi x1)), some (.int rv)] [.int (0 : Int32), .ref 75] 2 (fun f => rfl) ?_
    refine zW_go (pc' := 34) (L' := [some (.ref 75), some (.int (zbi x1)), some (.int rv)]) (st' := []) (h' := (va_up (zh K (code, rf, rs, bad, pr, pn, len, plc, fin, rv, es, rr, rc, om) (m, pa, pb, pc, vf, vs, tx, rd, ou) w) 75 (.inr (7, zfl (code, rf, rs, bad, pr, pn, len, plc, fin, rv, (0 : Int32), rr, rc, om))))) 1 (fun f => rfl) ?_
    refine zW_eq zu_75 ?_
    exact zW_rh none 1 (fun f => rfl) H
  · have c9 : x1 = true := ((Bool.not_eq_false' _).mp ((zcB_eq _).symm.trans c))
    replace H := H.2 c9
    refine zW_gh 26 [some (.ref 75), some (.int (zbi x1)), some (.int rv)] [.int (-rv), .ref 75] 3 (fun f => rfl) ?_
    refine zW_go (pc' := 29) (L' := [some (.ref 75), some (.int (zbi x1)), some (.int rv)]) (st' := []) (h' := (va_up (zh K (code, rf, rs, bad, pr, pn, len, plc, fin, ef, es, rr, rc, om) (m, pa, pb, pc, vf, vs, tx, rd, ou) w) 75 (.inr (7, zfl (code, rf, rs, bad, pr, pn, len, plc, fin, (-rv), es, rr, rc, om))))) 1 (fun f => rfl) ?_
    refine zW_eq zu_75 ?_
    refine zW_gh 31 [some (.ref 75), some (.int (zbi x1)), some (.int rv)] [.int (0 : Int32), .ref 75] 2 (fun f => rfl) ?_
    refine zW_go (pc' := 34) (L' := [some (.ref 75), some (.int (zbi x1)), some (.int rv)]) (st' := []) (h' := (va_up (zh K (code, rf, rs, bad, pr, pn, len, plc, fin, (-rv), es, rr, rc, om) (m, pa, pb, pc, vf, vs, tx, rd, ou) w) 75 (.inr (7, zfl (code, rf, rs, bad, pr, pn, len, plc, fin, (-rv), (0 : Int32), rr, rc, om))))) 1 (fun f => rfl) ?_
    refine zW_eq zu_75 ?_
    exact zW_rh none 1 (fun f => rfl) H
set_option maxRecDepth 20000 in
theorem b236 {K : zKt} {code rf rs pr pn ef es : Int32} {bad fin : Bool} {len plc rr rc om : Nat} {m pa pb pc vf vs tx rd ou : Nat → Int32} {w : Nat → Int64} {p : Nat × Nat} {Q : zR → zH → Prop} (H : zT zm_233 [.ref 75] p (zh K (code, rf, rs, bad, pr, pn, len, plc, fin, ef, es, rr, rc, om) (m, pa, pb, pc, vf, vs, tx, rd, ou) w) (zK zm_236 4 [some (.ref 75), none, none, none] [] p Q)) : zT zm_236 [.ref 75] p (zh K (code, rf, rs, bad, pr, pn, len, plc, fin, ef, es, rr, rc, om) (m, pa, pb, pc, vf, vs, tx, rd, ou) w) Q := by
  change zW zm_236 0 [some (.ref 75), none, none, none] [] p _ Q
  refine zW_gh 1 [some (.ref 75), none, none, none] [.ref 75] 1 (fun f => rfl) ?_
  exact zW_cl rfl rfl rfl rfl rfl H
set_option maxRecDepth 20000 in
theorem b236_4 {K : zKt} {code rf rs pr pn ef es : Int32} {bad fin : Bool} {len plc rr rc om : Nat} {m pa pb pc vf vs tx rd ou : Nat → Int32} {w : Nat → Int64} {p : Nat × Nat} {Q : zR → zH → Prop} {rv : Bool} (H : ((rv = false → (len ≤ 120 ∧ (plc < 2147483648 ∧ (((zhere tx len plc (105 : Int32)) = false → zT zm_234 [.ref 75, .int (5 : Int32), .long (30000 : Int64)] p (zh K (code, rf, rs, bad, pr, pn, len, plc, fin, (0 : Int32), (0 : Int32), rr, rc, om) (m, pa, pb, pc, vf, vs, tx, rd, ou) w) (zK zm_236 56 [some (.ref 75), some (.int (1 : Int32)), none, none] [] p Q)) ∧ ((zhere tx len plc (105 : Int32)) = true → Q (.inl none) (zh K (code, rf, rs, bad, pr, pn, len, (plc + 1), fin, (0 : Int32), (1 : Int32), rr, rc, om) (m, pa, pb, pc, vf, vs, tx, rd, ou) w)))))) ∧ (rv = true → (len ≤ 120 ∧ (plc < 2147483648 ∧ (((zhere tx len plc (105 : Int32)) = false → zT zm_234 [.ref 75, .int (5 : Int32), .long (30000 : Int64)] p (zh K (code, rf, rs, bad, pr, pn, len, plc, fin, (0 : Int32), (0 : Int32), rr, rc, om) (m, pa, pb, pc, vf, vs, tx, rd, ou) w) (zK zm_236 56 [some (.ref 75), some (.int (-1 : Int32)), none, none] [] p Q)) ∧ ((zhere tx len plc (105 : Int32)) = true → Q (.inl none) (zh K (code, rf, rs, bad, pr, pn, len, (plc + 1), fin, (0 : Int32), (-1 : Int32), rr, rc, om) (m, pa, pb, pc, vf, vs, tx, rd, ou) w)))))))) : zW zm_236 4 [some (.ref 75), none, none, none] [.int (zbi rv)] p (zh K (code, rf, rs, bad, pr, pn, len, plc, fin, ef, es, rr, rc, om) (m, pa, pb, pc, vf, vs, tx, rd, ou) w) Q := by
  refine zW_bh (zcmp .eq (zbi rv) (0 : Int32)) 11 7 [some (.ref 75), none, none, none] [] 1 (fun f => rfl) (fun c => ?_) (fun c => ?_)
  · have c9 : rv = false := ((Bool.not_eq_true' _).mp ((zcB_eq _).symm.trans c))
    replace H := H.1 c9
    refine zW_gh 15 [some (.ref 75), some (.int (1 : Int32)), none, none] [.int (0 : Int32), .ref 75] 4 (fun f => rfl) ?_
    refine zW_go (pc' := 18) (L' := [some (.ref 75), some (.int (1 : Int32)), none, none]) (st' := []) (h' := (va_up (zh K (code, rf, rs, bad, pr, pn, len, plc, fin, ef, es, rr, rc, om) (m, pa, pb, pc, vf, vs, tx, rd, ou) w) 75 (.inr (7, zfl (code, rf, rs, bad, pr, pn, len, plc, fin, (0 : Int32), es, rr, rc, om))))) 1 (fun f => rfl) ?_
    refine zW_eq zu_75 ?_
    refine zW_gh 20 [some (.ref 75), some (.int (1 : Int32)), none, none] [.int (0 : Int32), .ref 75] 2 (fun f => rfl) ?_
    refine zW_go (pc' := 23) (L' := [some (.ref 75), some (.int (1 : Int32)), none, none]) (st' := []) (h' := (va_up (zh K (code, rf, rs, bad, pr, pn, len, plc, fin, (0 : Int32), es, rr, rc, om) (m, pa, pb, pc, vf, vs, tx, rd, ou) w) 75 (.inr (7, zfl (code, rf, rs, bad, pr, pn, len, plc, fin, (0 : Int32), (0 : Int32), rr, rc, om))))) 1 (fun f => rfl) ?_
    refine zW_eq zu_75 ?_
    refine zW_gh 26 [some (.ref 75), some (.int (1 : Int32)), none, none] [.int (105 : Int32), .ref 75] 2 (fun f => rfl) ?_
    obtain ⟨h1, H⟩ := H
    obtain ⟨h2, H⟩ := H
    refine zW_cl rfl rfl rfl rfl rfl (s228 h1 h2 ?_)
    change zW zm_236 29 [some (.ref 75), some (.int (1 : Int32)), none, none] [.int (zbi (zhere tx len plc (105 : Int32)))] p _ Q
    refine zW_bh (zcmp .eq (zbi (zhere tx len plc (105 : Int32))) (0 : Int32)) 48 32 [some (.ref 75), some (.int (1 : Int32)), none, none] [] 1 (fun f => rfl) (fun c => ?_) (fun c => ?_)
    · have c9 : (zhere tx len plc (105 : Int32)) = false := ((Bool.not_eq_true' _).mp ((zcB_eq _).symm.trans c))
      replace H := H.1 c9
      refine zW_gh 53 [some (.ref 75), some (.int (1 : Int32)), none, none] [.long (30000 : Int64), .int (5 : Int32), .ref 75] 3 (fun f => rfl) ?_
      exact zW_cl rfl rfl rfl rfl rfl H
    · have c9 : (zhere tx len plc (105 : Int32)) = true := ((Bool.not_eq_false' _).mp ((zcB_eq _).symm.trans c))
      replace H := H.2 c9
      refine zW_gh 39 [some (.ref 75), some (.int (1 : Int32)), none, none] [.int ((Int32.ofNat plc) + (1 : Int32)), .ref 75] 5 (fun f => rfl) ?_
      rw [show ((Int32.ofNat plc) + (1 : Int32)) = Int32.ofNat (plc + 1) from (zN_a rfl rfl)]
      refine zW_go (pc' := 42) (L' := [some (.ref 75), some (.int (1 : Int32)), none, none]) (st' := []) (h' := (va_up (zh K (code, rf, rs, bad, pr, pn, len, plc, fin, (0 : Int32), (0 : Int32), rr, rc, om) (m, pa, pb, pc, vf, vs, tx, rd, ou) w) 75 (.inr (7, zfl (code, rf, rs, bad, pr, pn, len, (plc + 1), fin, (0 : Int32), (0 : Int32), rr, rc, om))))) 1 (fun f => rfl) ?_
      refine zW_eq zu_75 ?_
      refine zW_gh 44 [some (.ref 75), some (.int (1 : Int32)), none, none] [.int (1 : Int32), .ref 75] 2 (fun f => rfl) ?_
      refine zW_go (pc' := 47) (L' := [some (.ref 75), some (.int (1 : Int32)), none, none]) (st' := []) (h' := (va_up (zh K (code, rf, rs, bad, pr, pn, len, (plc + 1), fin, (0 : Int32), (0 : Int32), rr, rc, om) (m, pa, pb, pc, vf, vs, tx, rd, ou) w) 75 (.inr (7, zfl (code, rf, rs, bad, pr, pn, len, (plc + 1), fin, (0 : Int32), (1 : Int32), rr, rc, om))))) 1 (fun f => rfl) ?_
      refine zW_eq zu_75 ?_
      exact zW_rh none 1 (fun f => rfl) H
  · have c9 : rv = true := ((Bool.not_eq_false' _).mp ((zcB_eq _).symm.trans c))
    replace H := H.2 c9
    refine zW_gh 15 [some (.ref 75), some (.int (-1 : Int32)), none, none] [.int (0 : Int32), .ref 75] 5 (fun f => rfl) ?_
    refine zW_go (pc' := 18) (L' := [some (.ref 75), some (.int (-1 : Int32)), none, none]) (st' := []) (h' := (va_up (zh K (code, rf, rs, bad, pr, pn, len, plc, fin, ef, es, rr, rc, om) (m, pa, pb, pc, vf, vs, tx, rd, ou) w) 75 (.inr (7, zfl (code, rf, rs, bad, pr, pn, len, plc, fin, (0 : Int32), es, rr, rc, om))))) 1 (fun f => rfl) ?_
    refine zW_eq zu_75 ?_
    refine zW_gh 20 [some (.ref 75), some (.int (-1 : Int32)), none, none] [.int (0 : Int32), .ref 75] 2 (fun f => rfl) ?_
    refine zW_go (pc' := 23) (L' := [some (.ref 75), some (.int (-1 : Int32)), none, none]) (st' := []) (h' := (va_up (zh K (code, rf, rs, bad, pr, pn, len, plc, fin, (0 : Int32), es, rr, rc, om) (m, pa, pb, pc, vf, vs, tx, rd, ou) w) 75 (.inr (7, zfl (code, rf, rs, bad, pr, pn, len, plc, fin, (0 : Int32), (0 : Int32), rr, rc, om))))) 1 (fun f => rfl) ?_
    refine zW_eq zu_75 ?_
    refine zW_gh 26 [some (.ref 75), some (.int (-1 : Int32)), none, none] [.int (105 : Int32), .ref 75] 2 (fun f => rfl) ?_
    obtain ⟨h3, H⟩ := H
    obtain ⟨h4, H⟩ := H
    refine zW_cl rfl rfl rfl rfl rfl (s228 h3 h4 ?_)
    change zW zm_236 29 [some (.ref 75), some (.int (-1 : Int32)), none, none] [.int (zbi (zhere tx len plc (105 : Int32)))] p _ Q
    refine zW_bh (zcmp .eq (zbi (zhere tx len plc (105 : Int32))) (0 : Int32)) 48 32 [some (.ref 75), some (.int (-1 : Int32)), none, none] [] 1 (fun f => rfl) (fun c => ?_) (fun c => ?_)
    · have c9 : (zhere tx len plc (105 : Int32)) = false := ((Bool.not_eq_true' _).mp ((zcB_eq _).symm.trans c))
      replace H := H.1 c9
      refine zW_gh 53 [some (.ref 75), some (.int (-1 : Int32)), none, none] [.long (30000 : Int64), .int (5 : Int32), .ref 75] 3 (fun f => rfl) ?_
      exact zW_cl rfl rfl rfl rfl rfl H
    · have c9 : (zhere tx len plc (105 : Int32)) = true := ((Bool.not_eq_false' _).mp ((zcB_eq _).symm.trans c))
      replace H := H.2 c9
      refine zW_gh 39 [some (.ref 75), some (.int (-1 : Int32)), none, none] [.int ((Int32.ofNat plc) + (1 : Int32)), .ref 75] 5 (fun f => rfl) ?_
      rw [show ((Int32.ofNat plc) + (1 : Int32)) = Int32.ofNat (plc + 1) from (zN_a rfl rfl)]
      refine zW_go (pc' := 42) (L' := [some (.ref 75), some (.int (-1 : Int32)), none, none]) (st' := []) (h' := (va_up (zh K (code, rf, rs, bad, pr, pn, len, plc, fin, (0 : Int32), (0 : Int32), rr, rc, om) (m, pa, pb, pc, vf, vs, tx, rd, ou) w) 75 (.inr (7, zfl (code, rf, rs, bad, pr, pn, len, (plc + 1), fin, (0 : Int32), (0 : Int32), rr, rc, om))))) 1 (fun f => rfl) ?_
      refine zW_eq zu_75 ?_
      refine zW_gh 44 [some (.ref 75), some (.int (-1 : Int32)), none, none] [.int (-1 : Int32), .ref 75] 2 (fun f => rfl) ?_
      refine zW_go (pc' := 47) (L' := [some (.ref 75), some (.int (-1 : Int32)), none, none]) (st' := []) (h' := (va_up (zh K (code, rf, rs, bad, pr, pn, len, (plc + 1), fin, (0 : Int32), (0 : Int32), rr, rc, om) (m, pa, pb, pc, vf, vs, tx, rd, ou) w) 75 (.inr (7, zfl (code, rf, rs, bad, pr, pn, len, (plc + 1), fin, (0 : Int32), (-1 : Int32), rr, rc, om))))) 1 (fun f => rfl) ?_
      refine zW_eq zu_75 ?_
      exact zW_rh none 1 (fun f => rfl) H
set_option maxRecDepth 20000 in
theorem b236_56 {K : zKt} {code rf rs pr pn ef es : Int32} {bad fin : Bool} {len plc rr rc om : Nat} {m pa pb pc vf vs tx rd ou : Nat → Int32} {w : Nat → Int64} {p : Nat × Nat} {Q : zR → zH → Prop} {x1 rv : Int32} (H : ((fin = false → zW zm_236 91 [some (.ref 75), some (.int x1), some (.int rv), none] [] p (zh K (code, rf, rs, bad, pr, pn, len, plc, fin, ef, es, rr, rc, om) (m, pa, pb, pc, vf, vs, tx, rd, ou) w) Q) ∧ (fin = true → (len ≤ 120 ∧ (plc < 2147483648 ∧ (((zhere tx len plc (105 : Int32)) = false → zW zm_236 91 [some (.ref 75), some (.int x1), some (.int rv), none] [] p (zh K (code, rf, rs, bad, pr, pn, len, plc, fin, ef, es, rr, rc, om) (m, pa, pb, pc, vf, vs, tx, rd, ou) w) Q) ∧ ((zhere tx len plc (105 : Int32)) = true → Q (.inl none) (zh K (code, rf, rs, bad, pr, pn, len, (plc + 1), fin, ef, (x1 * rv), rr, rc, om) (m, pa, pb, pc, vf, vs, tx, rd, ou) w)))))))) : zW zm_236 56 [some (.ref 75), some (.int x1), none, none] [.int rv] p (zh K (code, rf, rs, bad, pr, pn, len, plc, fin, ef, es, rr, rc, om) (m, pa, pb, pc, vf, vs, tx, rd, ou) w) Q := by
  refine zW_bh (zcmp .eq (zbi fin) (0 : Int32)) 91 64 [some (.ref 75), some (.int x1), some (.int rv), none] [] 4 (fun f => rfl) (fun c => ?_) (fun c => ?_)
  · have c9 : fin = false := ((Bool.not_eq_true' _).mp ((zcB_eq _).symm.trans c))
    replace H := H.1 c9
    exact H
  · have c9 : fin = true := ((Bool.not_eq_false' _).mp ((zcB_eq _).symm.trans c))
    replace H := H.2 c9
    refine zW_gh 67 [some (.ref 75), some (.int x1), some (.int rv), none] [.int (105 : Int32), .ref 75] 2 (fun f => rfl) ?_
    obtain ⟨h1, H⟩ := H
    obtain ⟨h2, H⟩ := H
    refine zW_cl rfl rfl rfl rfl rfl (s228 h1 h2 ?_)
    change zW zm_236 70 [some (.ref 75), some (.int x1), some (.int rv), none] [.int (zbi (zhere tx len plc (105 : Int32)))] p _ Q
    refine zW_bh (zcmp .eq (zbi (zhere tx len plc (105 : Int32))) (0 : Int32)) 91 73 [some (.ref 75), some (.int x1), some (.int rv), none] [] 1 (fun f => rfl) (fun c => ?_) (fun c => ?_)
    · have c9 : (zhere tx len plc (105 : Int32)) = false := ((Bool.not_eq_true' _).mp ((zcB_eq _).symm.trans c))
      replace H := H.1 c9
      exact H
    · have c9 : (zhere tx len plc (105 : Int32)) = true := ((Bool.not_eq_false' _).mp ((zcB_eq _).symm.trans c))
      replace H := H.2 c9
      refine zW_gh 80 [some (.ref 75), some (.int x1), some (.int rv), none] [.int ((Int32.ofNat plc) + (1 : Int32)), .ref 75] 5 (fun f => rfl) ?_
      rw [show ((Int32.ofNat plc) + (1 : Int32)) = Int32.ofNat (plc + 1) from (zN_a rfl rfl)]
      refine zW_go (pc' := 83) (L' := [some (.ref 75), some (.int x1), some (.int rv), none]) (st' := []) (h' := (va_up (zh K (code, rf, rs, bad, pr, pn, len, plc, fin, ef, es, rr, rc, om) (m, pa, pb, pc, vf, vs, tx, rd, ou) w) 75 (.inr (7, zfl (code, rf, rs, bad, pr, pn, len, (plc + 1), fin, ef, es, rr, rc, om))))) 1 (fun f => rfl) ?_
      refine zW_eq zu_75 ?_
      refine zW_gh 87 [some (.ref 75), some (.int x1), some (.int rv), none] [.int (x1 * rv), .ref 75] 4 (fun f => rfl) ?_
      refine zW_go (pc' := 90) (L' := [some (.ref 75), some (.int x1), some (.int rv), none]) (st' := []) (h' := (va_up (zh K (code, rf, rs, bad, pr, pn, len, (plc + 1), fin, ef, es, rr, rc, om) (m, pa, pb, pc, vf, vs, tx, rd, ou) w) 75 (.inr (7, zfl (code, rf, rs, bad, pr, pn, len, (plc + 1), fin, ef, (x1 * rv), rr, rc, om))))) 1 (fun f => rfl) ?_
      refine zW_eq zu_75 ?_
      exact zW_rh none 1 (fun f => rfl) H
set_option maxRecDepth 20000 in
theorem b236_91 {K : zKt} {code rf rs pr pn ef es : Int32} {bad fin : Bool} {len plc rr rc om : Nat} {m pa pb pc vf vs tx rd ou : Nat → Int32} {w : Nat → Int64} {p : Nat × Nat} {Q : zR → zH → Prop} {x1 x2 : Int32} (H : ((fin = false → Q (.inl none) (zh K (code, rf, rs, bad, pr, pn, len, plc, fin, (x1 * x2), es, rr, rc, om) (m, pa, pb, pc, vf, vs, tx, rd, ou) w)) ∧ (fin = true → (len ≤ 120 ∧ (plc < 2147483648 ∧ (((zhere tx len plc (43 : Int32)) = true → (len ≤ 120 ∧ (plc < 2147483648 ∧ (((zhere tx len plc (43 : Int32)) = false → zW zm_236 137 [some (.ref 75), none, none, none] [.int (-1 : Int32)] p (zh K (code, rf, rs, bad, pr, pn, len, plc, fin, (x1 * x2), es, rr, rc, om) (m, pa, pb, pc, vf, vs, tx, rd, ou) w) Q) ∧ ((zhere tx len plc (43 : Int32)) = true → zW zm_236 137 [some (.ref 75), none, none, none] [.int (1 : Int32)] p (zh K (code, rf, rs, bad, pr, pn, len, plc, fin, (x1 * x2), es, rr, rc, om) (m, pa, pb, pc, vf, vs, tx, rd, ou) w) Q))))) ∧ ((zhere tx len plc (43 : Int32)) = false → (len ≤ 120 ∧ (plc < 2147483648 ∧ (((zhere tx len plc (45 : Int32)) = false → Q (.inl none) (zh K (code, rf, rs, bad, pr, pn, len, plc, fin, (x1 * x2), es, rr, rc, om) (m, pa, pb, pc, vf, vs, tx, rd, ou) w)) ∧ ((zhere tx len plc (45 : Int32)) = true → (len ≤ 120 ∧ (plc < 2147483648 ∧ (((zhere tx len plc (43 : Int32)) = false → zW zm_236 137 [some (.ref 75), none, none, none] [.int (-1 : Int32)] p (zh K (code, rf, rs, bad, pr, pn, len, plc, fin, (x1 * x2), es, rr, rc, om) (m, pa, pb, pc, vf, vs, tx, rd, ou) w) Q) ∧ ((zhere tx len plc (43 : Int32)) = true → zW zm_236 137 [some (.ref 75), none, none, none] [.int (1 : Int32)] p (zh K (code, rf, rs, bad, pr, pn, len, plc, fin, (x1 * x2), es, rr, rc, om) (m, pa, pb, pc, vf, vs, tx, rd, ou) w) Q))))))))))))))) : zW zm_236 91 [some (.ref 75), some (.int x1), some (.int x2), none] [] p (zh K (code, rf, rs, bad, pr, pn, len, plc, fin, ef, es, rr, rc, om) (m, pa, pb, pc, vf, vs, tx, rd, ou) w) Q := by
  refine zW_gh 95 [some (.ref 75), some (.int x1), some (.int x2), none] [.int (x1 * x2), .ref 75] 4 (fun f => rfl) ?_
  refine zW_go (pc' := 98) (L' := [some (.ref 75), some (.int x1), some (.int x2), none]) (st' := []) (h' := (va_up (zh K (code, rf, rs, bad, pr, pn, len, plc, fin, ef, es, rr, rc, om) (m, pa, pb, pc, vf, vs, tx, rd, ou) w) 75 (.inr (7, zfl (code, rf, rs, bad, pr, pn, len, plc, fin, (x1 * x2), es, rr, rc, om))))) 1 (fun f => rfl) ?_
  refine zW_eq zu_75 ?_
  refine zW_bh (zcmp .eq (zbi fin) (0 : Int32)) 204 105 [some (.ref 75), some (.int x1), some (.int x2), none] [] 3 (fun f => rfl) (fun c => ?_) (fun c => ?_)
  · have c9 : fin = false := ((Bool.not_eq_true' _).mp ((zcB_eq _).symm.trans c))
    replace H := H.1 c9
    exact zW_rh none 1 (fun f => rfl) H
  · have c9 : fin = true := ((Bool.not_eq_false' _).mp ((zcB_eq _).symm.trans c))
    replace H := H.2 c9
    refine zW_gh 108 [some (.ref 75), some (.int x1), some (.int x2), none] [.int (43 : Int32), .ref 75] 2 (fun f => rfl) ?_
    obtain ⟨h1, H⟩ := H
    obtain ⟨h2, H⟩ := H
    refine zW_cl rfl rfl rfl rfl rfl (s228 h1 h2 ?_)
    change zW zm_236 111 [some (.ref 75), some (.int x1), some (.int x2), none] [.int (zbi (zhere tx len plc (43 : Int32)))] p _ Q
    refine zW_bh (zcmp .ne (zbi (zhere tx len plc (43 : Int32))) (0 : Int32)) 123 114 [some (.ref 75), some (.int x1), some (.int x2), none] [] 1 (fun f => rfl) (fun c => ?_) (fun c => ?_)
    · have c9 : (zhere tx len plc (43 : Int32)) = true := ((zcB_ne _).symm.trans c)
      replace H := H.1 c9
      refine zW_gh 126 [some (.ref 75), some (.int x1), some (.int x2), none] [.int (43 : Int32), .ref 75] 2 (fun f => rfl) ?_
      obtain ⟨h3, H⟩ := H
      obtain ⟨h4, H⟩ := H
      refine zW_cl rfl rfl rfl rfl rfl (s228 h3 h4 ?_)
      change zW zm_236 129 [some (.ref 75), some (.int x1), some (.int x2), none] [.int (zbi (zhere tx len plc (43 : Int32)))] p _ Q
      refine zW_bh (zcmp .eq (zbi (zhere tx len plc (43 : Int32))) (0 : Int32)) 136 132 [some (.ref 75), some (.int x1), some (.int x2), none] [] 1 (fun f => rfl) (fun c => ?_) (fun c => ?_)
      · have c9 : (zhere tx len plc (43 : Int32)) = false := ((Bool.not_eq_true' _).mp ((zcB_eq _).symm.trans c))
        replace H := H.1 c9
        refine zW_gh 137 [some (.ref 75), some (.int x1), some (.int x2), none] [.int (-1 : Int32)] 1 (fun f => rfl) ?_
        refine zW_fg (L' := [some (.ref 75), none, none, none]) (zle_s _ (zle_n _ (zle_n _ (zle_s _ zle_nil)))) ?_
        exact H
      · have c9 : (zhere tx len plc (43 : Int32)) = true := ((Bool.not_eq_false' _).mp ((zcB_eq _).symm.trans c))
        replace H := H.2 c9
        refine zW_gh 137 [some (.ref 75), some (.int x1), some (.int x2), none] [.int (1 : Int32)] 2 (fun f => rfl) ?_
        refine zW_fg (L' := [some (.ref 75), none, none, none]) (zle_s _ (zle_n _ (zle_n _ (zle_s _ zle_nil)))) ?_
        exact H
    · have c9 : (zhere tx len plc (43 : Int32)) = false := ((zcB_ne _).symm.trans c)
      replace H := H.2 c9
      refine zW_gh 117 [some (.ref 75), some (.int x1), some (.int x2), none] [.int (45 : Int32), .ref 75] 2 (fun f => rfl) ?_
      obtain ⟨h5, H⟩ := H
      obtain ⟨h6, H⟩ := H
      refine zW_cl rfl rfl rfl rfl rfl (s228 h5 h6 ?_)
      change zW zm_236 120 [some (.ref 75), some (.int x1), some (.int x2), none] [.int (zbi (zhere tx len plc (45 : Int32)))] p _ Q
      refine zW_bh (zcmp .eq (zbi (zhere tx len plc (45 : Int32))) (0 : Int32)) 204 123 [some (.ref 75), some (.int x1), some (.int x2), none] [] 1 (fun f => rfl) (fun c => ?_) (fun c => ?_)
      · have c9 : (zhere tx len plc (45 : Int32)) = false := ((Bool.not_eq_true' _).mp ((zcB_eq _).symm.trans c))
        replace H := H.1 c9
        exact zW_rh none 1 (fun f => rfl) H
      · have c9 : (zhere tx len plc (45 : Int32)) = true := ((Bool.not_eq_false' _).mp ((zcB_eq _).symm.trans c))
        replace H := H.2 c9
        refine zW_gh 126 [some (.ref 75), some (.int x1), some (.int x2), none] [.int (43 : Int32), .ref 75] 2 (fun f => rfl) ?_
        obtain ⟨h7, H⟩ := H
        obtain ⟨h8, H⟩ := H
        refine zW_cl rfl rfl rfl rfl rfl (s228 h7 h8 ?_)
        change zW zm_236 129 [some (.ref 75), some (.int x1), some (.int x2), none] [.int (zbi (zhere tx len plc (43 : Int32)))] p _ Q
        refine zW_bh (zcmp .eq (zbi (zhere tx len plc (43 : Int32))) (0 : Int32)) 136 132 [some (.ref 75), some (.int x1), some (.int x2), none] [] 1 (fun f => rfl) (fun c => ?_) (fun c => ?_)
        · have c9 : (zhere tx len plc (43 : Int32)) = false := ((Bool.not_eq_true' _).mp ((zcB_eq _).symm.trans c))
          replace H := H.1 c9
          refine zW_gh 137 [some (.ref 75), some (.int x1), some (.int x2), none] [.int (-1 : Int32)] 1 (fun f => rfl) ?_
          refine zW_fg (L' := [some (.ref 75), none, none, none]) (zle_s _ (zle_n _ (zle_n _ (zle_s _ zle_nil)))) ?_
          exact H
        · have c9 : (zhere tx len plc (43 : Int32)) = true := ((Bool.not_eq_false' _).mp ((zcB_eq _).symm.trans c))
          replace H := H.2 c9
          refine zW_gh 137 [some (.ref 75), some (.int x1), some (.int x2), none] [.int (1 : Int32)] 2 (fun f => rfl) ?_
          refine zW_fg (L' := [some (.ref 75), none, none, none]) (zle_s _ (zle_n _ (zle_n _ (zle_s _ zle_nil)))) ?_
          exact H
set_option maxRecDepth 20000 in
theorem b236_137 {K : zKt} {code rf rs pr pn ef es : Int32} {bad fin : Bool} {len plc rr rc om : Nat} {m pa pb pc vf vs tx rd ou : Nat → Int32} {w : Nat → Int64} {p : Nat × Nat} {Q : zR → zH → Prop} {s0 : Int32} (H : (len ≤ 120 ∧ ((plc + 1) < 2147483648 ∧ (((zdgh tx len (plc + 1)) = false → (len ≤ 120 ∧ ((plc + 1) < 2147483648 ∧ (((fin && (zhere tx len (plc + 1) (105 : Int32))) = false → Q (.inl none) (zh K (code, rf, rs, bad, pr, pn, len, ((plc + 1) + 0), (fin && (zhere tx len (plc + 1) (105 : Int32))), ef, (s0 * (1 : Int32)), rr, rc, om) (m, pa, pb, pc, vf, vs, tx, rd, ou) w)) ∧ ((fin && (zhere tx len (plc + 1) (105 : Int32))) = true → Q (.inl none) (zh K (code, rf, rs, bad, pr, pn, len, ((plc + 1) + 1), (fin && (zhere tx len (plc + 1) (105 : Int32))), ef, (s0 * (1 : Int32)), rr, rc, om) (m, pa, pb, pc, vf, vs, tx, rd, ou) w)))))) ∧ ((zdgh tx len (plc + 1)) = true → zT zm_234 [.ref 75, .int (5 : Int32), .long (30000 : Int64)] p (zh K (code, rf, rs, bad, pr, pn, len, (plc + 1), fin, ef, es, rr, rc, om) (m, pa, pb, pc, vf, vs, tx, rd, ou) w) (zK zm_236 165 [some (.ref 75), none, none, none] [.int s0, .ref 75] p Q)))))) : zW zm_236 137 [some (.ref 75), none, none, none] [.int s0] p (zh K (code, rf, rs, bad, pr, pn, len, plc, fin, ef, es, rr, rc, om) (m, pa, pb, pc, vf, vs, tx, rd, ou) w) Q := by
  refine zW_gh 145 [some (.ref 75), none, none, some (.int s0)] [.int ((Int32.ofNat plc) + (1 : Int32)), .ref 75] 6 (fun f => rfl) ?_
  rw [show ((Int32.ofNat plc) + (1 : Int32)) = Int32.ofNat (plc + 1) from (zN_a rfl rfl)]
  refine zW_go (pc' := 148) (L' := [some (.ref 75), none, none, some (.int s0)]) (st' := []) (h' := (va_up (zh K (code, rf, rs, bad, pr, pn, len, plc, fin, ef, es, rr, rc, om) (m, pa, pb, pc, vf, vs, tx, rd, ou) w) 75 (.inr (7, zfl (code, rf, rs, bad, pr, pn, len, (plc + 1), fin, ef, es, rr, rc, om))))) 1 (fun f => rfl) ?_
  refine zW_eq zu_75 ?_
  refine zW_gh 151 [some (.ref 75), none, none, some (.int s0)] [.ref 75, .int s0, .ref 75] 3 (fun f => rfl) ?_
  obtain ⟨h1, H⟩ := H
  obtain ⟨h2, H⟩ := H
  refine zW_cl rfl rfl rfl rfl rfl (s235 h1 h2 ?_)
  change zW zm_236 154 [some (.ref 75), none, none, some (.int s0)] [.int (zbi (zdgh tx len (plc + 1))), .int s0, .ref 75] p _ Q
  refine zW_bh (zcmp .eq (zbi (zdgh tx len (plc + 1))) (0 : Int32)) 168 157 [some (.ref 75), none, none, some (.int s0)] [.int s0, .ref 75] 1 (fun f => rfl) (fun c => ?_) (fun c => ?_)
  · have c9 : (zdgh tx len (plc + 1)) = false := ((Bool.not_eq_true' _).mp ((zcB_eq _).symm.trans c))
    replace H := H.1 c9
    refine zW_gh 170 [some (.ref 75), none, none, some (.int s0)] [.int (s0 * (1 : Int32)), .ref 75] 2 (fun f => rfl) ?_
    refine zW_go (pc' := 173) (L' := [some (.ref 75), none, none, some (.int s0)]) (st' := []) (h' := (va_up (zh K (code, rf, rs, bad, pr, pn, len, (plc + 1), fin, ef, es, rr, rc, om) (m, pa, pb, pc, vf, vs, tx, rd, ou) w) 75 (.inr (7, zfl (code, rf, rs, bad, pr, pn, len, (plc + 1), fin, ef, (s0 * (1 : Int32)), rr, rc, om))))) 1 (fun f => rfl) ?_
    refine zW_eq zu_75 ?_
    refine zW_gh 177 [some (.ref 75), none, none, some (.int s0)] [.int (105 : Int32), .ref 75, .ref 75] 3 (fun f => rfl) ?_
    obtain ⟨h3, H⟩ := H
    obtain ⟨h4, H⟩ := H
    refine zW_cl rfl rfl rfl rfl rfl (s228 h3 h4 ?_)
    change zW zm_236 180 [some (.ref 75), none, none, some (.int s0)] [.int (zbi (zhere tx len (plc + 1) (105 : Int32))), .ref 75] p _ Q
    refine zW_cl rfl rfl rfl rfl rfl ((s229 (b := (zhere tx len (plc + 1) (105 : Int32)))) ?_)
    change zW zm_236 183 [some (.ref 75), none, none, some (.int s0)] [] p _ Q
    refine zW_bh (zcmp .eq (zbi (fin && (zhere tx len (plc + 1) (105 : Int32)))) (0 : Int32)) 199 195 [some (.ref 75), none, none, some (.int s0)] [.int (Int32.ofNat (plc + 1)), .ref 75] 6 (fun f => rfl) (fun c => ?_) (fun c => ?_)
    · have c9 : (fin && (zhere tx len (plc + 1) (105 : Int32))) = false := ((Bool.not_eq_true' _).mp ((zcB_eq _).symm.trans c))
      replace H := H.1 c9
      refine zW_gh 201 [some (.ref 75), none, none, some (.int s0)] [.int ((Int32.ofNat (plc + 1)) + (0 : Int32)), .ref 75] 2 (fun f => rfl) ?_
      rw [show ((Int32.ofNat (plc + 1)) + (0 : Int32)) = Int32.ofNat ((plc + 1) + 0) from (zN_a rfl rfl)]
      refine zW_go (pc' := 204) (L' := [some (.ref 75), none, none, some (.int s0)]) (st' := []) (h' := (va_up (zh K (code, rf, rs, bad, pr, pn, len, (plc + 1), (fin && (zhere tx len (plc + 1) (105 : Int32))), ef, (s0 * (1 : Int32)), rr, rc, om) (m, pa, pb, pc, vf, vs, tx, rd, ou) w) 75 (.inr (7, zfl (code, rf, rs, bad, pr, pn, len, ((plc + 1) + 0), (fin && (zhere tx len (plc + 1) (105 : Int32))), ef, (s0 * (1 : Int32)), rr, rc, om))))) 1 (fun f => rfl) ?_
      refine zW_eq zu_75 ?_
      exact zW_rh none 1 (fun f => rfl) H
    · have c9 : (fin && (zhere tx len (plc + 1) (105 : Int32))) = true := ((Bool.not_eq_false' _).mp ((zcB_eq _).symm.trans c))
      replace H := H.2 c9
      refine zW_gh 201 [some (.ref 75), none, none, some (.int s0)] [.int ((Int32.ofNat (plc + 1)) + (1 : Int32)), .ref 75] 3 (fun f => rfl) ?_
      rw [show ((Int32.ofNat (plc + 1)) + (1 : Int32)) = Int32.ofNat ((plc + 1) + 1) from (zN_a rfl rfl)]
      refine zW_go (pc' := 204) (L' := [some (.ref 75), none, none, some (.int s0)]) (st' := []) (h' := (va_up (zh K (code, rf, rs, bad, pr, pn, len, (plc + 1), (fin && (zhere tx len (plc + 1) (105 : Int32))), ef, (s0 * (1 : Int32)), rr, rc, om) (m, pa, pb, pc, vf, vs, tx, rd, ou) w) 75 (.inr (7, zfl (code, rf, rs, bad, pr, pn, len, ((plc + 1) + 1), (fin && (zhere tx len (plc + 1) (105 : Int32))), ef, (s0 * (1 : Int32)), rr, rc, om))))) 1 (fun f => rfl) ?_
      refine zW_eq zu_75 ?_
      exact zW_rh none 1 (fun f => rfl) H
  · have c9 : (zdgh tx len (plc + 1)) = true := ((Bool.not_eq_false' _).mp ((zcB_eq _).symm.trans c))
    replace H := H.2 c9
    refine zW_gh 162 [some (.ref 75), none, none, some (.int s0)] [.long (30000 : Int64), .int (5 : Int32), .ref 75, .int s0, .ref 75] 3 (fun f => rfl) ?_
    refine zW_fg (L' := [some (.ref 75), none, none, none]) (zle_s _ (zle_s _ (zle_s _ (zle_n _ zle_nil)))) ?_
    exact zW_cl rfl rfl rfl rfl rfl H
set_option maxRecDepth 20000 in
theorem b236_165 {K : zKt} {code rf rs pr pn ef es : Int32} {bad fin : Bool} {len plc rr rc om : Nat} {m pa pb pc vf vs tx rd ou : Nat → Int32} {w : Nat → Int64} {p : Nat × Nat} {Q : zR → zH → Prop} {rv s0 : Int32} (H : (len ≤ 120 ∧ (plc < 2147483648 ∧ (((fin && (zhere tx len plc (105 : Int32))) = false → Q (.inl none) (zh K (code, rf, rs, bad, pr, pn, len, (plc + 0), (fin && (zhere tx len plc (105 : Int32))), ef, (s0 * rv), rr, rc, om) (m, pa, pb, pc, vf, vs, tx, rd, ou) w)) ∧ ((fin && (zhere tx len plc (105 : Int32))) = true → Q (.inl none) (zh K (code, rf, rs, bad, pr, pn, len, (plc + 1), (fin && (zhere tx len plc (105 : Int32))), ef, (s0 * rv), rr, rc, om) (m, pa, pb, pc, vf, vs, tx, rd, ou) w)))))) : zW zm_236 165 [some (.ref 75), none, none, none] [.int rv, .int s0, .ref 75] p (zh K (code, rf, rs, bad, pr, pn, len, plc, fin, ef, es, rr, rc, om) (m, pa, pb, pc, vf, vs, tx, rd, ou) w) Q := by
  refine zW_gh 170 [some (.ref 75), none, none, none] [.int (s0 * rv), .ref 75] 2 (fun f => rfl) ?_
  refine zW_go (pc' := 173) (L' := [some (.ref 75), none, none, none]) (st' := []) (h' := (va_up (zh K (code, rf, rs, bad, pr, pn, len, plc, fin, ef, es, rr, rc, om) (m, pa, pb, pc, vf, vs, tx, rd, ou) w) 75 (.inr (7, zfl (code, rf, rs, bad, pr, pn, len, plc, fin, ef, (s0 * rv), rr, rc, om))))) 1 (fun f => rfl) ?_
  refine zW_eq zu_75 ?_
  refine zW_gh 177 [some (.ref 75), none, none, none] [.int (105 : Int32), .ref 75, .ref 75] 3 (fun f => rfl) ?_
  obtain ⟨h1, H⟩ := H
  obtain ⟨h2, H⟩ := H
  refine zW_cl rfl rfl rfl rfl rfl (s228 h1 h2 ?_)
  change zW zm_236 180 [some (.ref 75), none, none, none] [.int (zbi (zhere tx len plc (105 : Int32))), .ref 75] p _ Q
  refine zW_cl rfl rfl rfl rfl rfl ((s229 (b := (zhere tx len plc (105 : Int32)))) ?_)
  change zW zm_236 183 [some (.ref 75), none, none, none] [] p _ Q
  refine zW_bh (zcmp .eq (zbi (fin && (zhere tx len plc (105 : Int32)))) (0 : Int32)) 199 195 [some (.ref 75), none, none, none] [.int (Int32.ofNat plc), .ref 75] 6 (fun f => rfl) (fun c => ?_) (fun c => ?_)
  · have c9 : (fin && (zhere tx len plc (105 : Int32))) = false := ((Bool.not_eq_true' _).mp ((zcB_eq _).symm.trans c))
    replace H := H.1 c9
    refine zW_gh 201 [some (.ref 75), none, none, none] [.int ((Int32.ofNat plc) + (0 : Int32)), .ref 75] 2 (fun f => rfl) ?_
    rw [show ((Int32.ofNat plc) + (0 : Int32)) = Int32.ofNat (plc + 0) from (zN_a rfl rfl)]
    refine zW_go (pc' := 204) (L' := [some (.ref 75), none, none, none]) (st' := []) (h' := (va_up (zh K (code, rf, rs, bad, pr, pn, len, plc, (fin && (zhere tx len plc (105 : Int32))), ef, (s0 * rv), rr, rc, om) (m, pa, pb, pc, vf, vs, tx, rd, ou) w) 75 (.inr (7, zfl (code, rf, rs, bad, pr, pn, len, (plc + 0), (fin && (zhere tx len plc (105 : Int32))), ef, (s0 * rv), rr, rc, om))))) 1 (fun f => rfl) ?_
    refine zW_eq zu_75 ?_
    exact zW_rh none 1 (fun f => rfl) H
  · have c9 : (fin && (zhere tx len plc (105 : Int32))) = true := ((Bool.not_eq_false' _).mp ((zcB_eq _).symm.trans c))
    replace H := H.2 c9
    refine zW_gh 201 [some (.ref 75), none, none, none] [.int ((Int32.ofNat plc) + (1 : Int32)), .ref 75] 3 (fun f => rfl) ?_
    rw [show ((Int32.ofNat plc) + (1 : Int32)) = Int32.ofNat (plc + 1) from (zN_a rfl rfl)]
    refine zW_go (pc' := 204) (L' := [some (.ref 75), none, none, none]) (st' := []) (h' := (va_up (zh K (code, rf, rs, bad, pr, pn, len, plc, (fin && (zhere tx len plc (105 : Int32))), ef, (s0 * rv), rr, rc, om) (m, pa, pb, pc, vf, vs, tx, rd, ou) w) 75 (.inr (7, zfl (code, rf, rs, bad, pr, pn, len, (plc + 1), (fin && (zhere tx len plc (105 : Int32))), ef, (s0 * rv), rr, rc, om))))) 1 (fun f => rfl) ?_
    refine zW_eq zu_75 ?_
    exact zW_rh none 1 (fun f => rfl) H
set_option maxRecDepth 20000 in
theorem b238 {K : zKt} {code rf rs pr pn ef es : Int32} {bad fin : Bool} {len plc rr rc om : Nat} {m pa pb pc vf vs tx rd ou : Nat → Int32} {w : Nat → Int64} {p : Nat × Nat} {Q : zR → zH → Prop} {a0 : Nat} {a1 : Int32} (H : (len ≤ 120 ∧ (plc < 2147483648 ∧ (((zdgh tx len plc) = false → (((zdgh tx len plc) = false → (len ≤ 120 ∧ (plc < 2147483648 ∧ zW zm_238 60 [some (.ref 75), some (.int (Int32.ofNat a0)), some (.int a1), some (.int (Int32.ofNat plc)), some (.int (zbi (zdgh tx len plc))), some (.int (1 : Int32)), none, none] [.int (zbi (zhere tx len plc (120 : Int32))), .ref 75] p (zh K (code, rf, rs, bad, pr, pn, len, plc, fin, ef, es, rr, rc, om) (m, pa, pb, pc, vf, vs, tx, rd, ou) w) Q))) ∧ ((zdgh tx len plc) = true → (a0 < 2147483648 ∧ ((a0 ≤ 1 → zW zm_238 60 [some (.ref 75), some (.int (Int32.ofNat a0)), some (.int a1), some (.int (Int32.ofNat plc)), some (.int (zbi (zdgh tx len plc))), some (.int (1 : Int32)), none, none] [.int (0 : Int32), .ref 75] p (zh K (code, rf, rs, bad, pr, pn, len, plc, fin, ef, es, rr, rc, om) (m, pa, pb, pc, vf, vs, tx, rd, ou) w) Q) ∧ (1 < a0 → zW zm_238 60 [some (.ref 75), some (.int (Int32.ofNat a0)), some (.int a1), some (.int (Int32.ofNat plc)), some (.int (zbi (zdgh tx len plc))), some (.int (1 : Int32)), none, none] [.int (1 : Int32), .ref 75] p (zh K (code, rf, rs, bad, pr, pn, len, plc, fin, ef, es, rr, rc, om) (m, pa, pb, pc, vf, vs, tx, rd, ou) w) Q)))))) ∧ ((zdgh tx len plc) = true → (plc < 120 ∧ (((zdgh tx len plc) = false → (len ≤ 120 ∧ (plc < 2147483648 ∧ zW zm_238 60 [some (.ref 75), some (.int (Int32.ofNat a0)), some (.int a1), some (.int (Int32.ofNat plc)), some (.int (zbi (zdgh tx len plc))), some (.int ((tx plc) - (48 : Int32))), none, none] [.int (zbi (zhere tx len plc (120 : Int32))), .ref 75] p (zh K (code, rf, rs, bad, pr, pn, len, plc, fin, ef, es, rr, rc, om) (m, pa, pb, pc, vf, vs, tx, rd, ou) w) Q))) ∧ ((zdgh tx len plc) = true → (((Int32.ofNat a0) ≤ ((tx plc) - (48 : Int32)) → zW zm_238 60 [some (.ref 75), some (.int (Int32.ofNat a0)), some (.int a1), some (.int (Int32.ofNat plc)), some (.int (zbi (zdgh tx len plc))), some (.int ((tx plc) - (48 : Int32))), none, none] [.int (0 : Int32), .ref 75] p (zh K (code, rf, rs, bad, pr, pn, len, plc, fin, ef, es, rr, rc, om) (m, pa, pb, pc, vf, vs, tx, rd, ou) w) Q) ∧ (¬ (Int32.ofNat a0) ≤ ((tx plc) - (48 : Int32)) → zW zm_238 60 [some (.ref 75), some (.int (Int32.ofNat a0)), some (.int a1), some (.int (Int32.ofNat plc)), some (.int (zbi (zdgh tx len plc))), some (.int ((tx plc) - (48 : Int32))), none, none] [.int (1 : Int32), .ref 75] p (zh K (code, rf, rs, bad, pr, pn, len, plc, fin, ef, es, rr, rc, om) (m, pa, pb, pc, vf, vs, tx, rd, ou) w) Q)))))))))) : zT zm_238 [.ref 75, .int (Int32.ofNat a0), .int a1] p (zh K (code, rf, rs, bad, pr, pn, len, plc, fin, ef, es, rr, rc, om) (m, pa, pb, pc, vf, vs, tx, rd, ou) w) Q := by
  change zW zm_238 0 [some (.ref 75), some (.int (Int32.ofNat a0)), some (.int a1), none, none, none, none, none] [] p _ Q
  refine zW_gh 6 [some (.ref 75), some (.int (Int32.ofNat a0)), some (.int a1), some (.int (Int32.ofNat plc)), none, none, none, none] [.ref 75] 4 (fun f => rfl) ?_
  obtain ⟨h1, H⟩ := H
  obtain ⟨h2, H⟩ := H
  refine zW_cl rfl rfl rfl rfl rfl (s235 h1 h2 ?_)
  change zW zm_238 9 [some (.ref 75), some (.int (Int32.ofNat a0)), some (.int a1), some (.int (Int32.ofNat plc)), none, none, none, none] [.int (zbi (zdgh tx len plc))] p _ Q
  refine zW_bh (zcmp .eq (zbi (zdgh tx len plc)) (0 : Int32)) 31 16 [some (.ref 75), some (.int (Int32.ofNat a0)), some (.int a1), some (.int (Int32.ofNat plc)), some (.int (zbi (zdgh tx len plc))), none, none, none] [] 3 (fun f => rfl) (fun c => ?_) (fun c => ?_)
  · have c9 : (zdgh tx len plc) = false := ((Bool.not_eq_true' _).mp ((zcB_eq _).symm.trans c))
    replace H := H.1 c9
    refine zW_bh (zcmp .eq (zbi (zdgh tx len plc)) (0 : Int32)) 54 40 [some (.ref 75), some (.int (Int32.ofNat a0)), some (.int a1), some (.int (Int32.ofNat plc)), some (.int (zbi (zdgh tx len plc))), some (.int (1 : Int32)), none, none] [.ref 75] 5 (fun f => rfl) (fun c => ?_) (fun c => ?_)
    · have c9 : (zdgh tx len plc) = false := ((Bool.not_eq_true' _).mp ((zcB_eq _).symm.trans c))
      replace H := H.1 c9
      refine zW_gh 57 [some (.ref 75), some (.int (Int32.ofNat a0)), some (.int a1), some (.int (Int32.ofNat plc)), some (.int (zbi (zdgh tx len plc))), some (.int (1 : Int32)), none, none] [.int (120 : Int32), .ref 75, .ref 75] 2 (fun f => rfl) ?_
      obtain ⟨h3, H⟩ := H
      obtain ⟨h4, H⟩ := H
      refine zW_cl rfl rfl rfl rfl rfl (s228 h3 h4 ?_)
      change zW zm_238 60 [some (.ref 75), some (.int (Int32.ofNat a0)), some (.int a1), some (.int (Int32.ofNat plc)), some (.int (zbi (zdgh tx len plc))), some (.int (1 : Int32)), none, none] [.int (zbi (zhere tx len plc (120 : Int32))), .ref 75] p _ Q
      exact H
    · have c9 : (zdgh tx len plc) = true := ((Bool.not_eq_false' _).mp ((zcB_eq _).symm.trans c))
      replace H := H.2 c9
      obtain ⟨h5, H⟩ := H
      refine zW_bh (zcmp .ge (1 : Int32) (Int32.ofNat a0)) 50 46 [some (.ref 75), some (.int (Int32.ofNat a0)), some (.int a1), some (.int (Int32.ofNat plc)), some (.int (zbi (zdgh tx len plc))), some (.int (1 : Int32)), none, none] [.ref 75] 3 (fun f => rfl) (fun c => ?_) (fun c => ?_)
      · have c9 : a0 ≤ 1 := (of_decide_eq_true ((zcN_ge (a := 1) (b := a0) rfl rfl (by decide) h5).symm.trans c))
        replace H := H.1 c9
        refine zW_gh 60 [some (.ref 75), some (.int (Int32.ofNat a0)), some (.int a1), some (.int (Int32.ofNat plc)), some (.int (zbi (zdgh tx len plc))), some (.int (1 : Int32)), none, none] [.int (0 : Int32), .ref 75] 2 (fun f => rfl) ?_
        exact H
      · have c9 : 1 < a0 := (Nat.lt_of_not_le (of_decide_eq_false ((zcN_ge (a := 1) (b := a0) rfl rfl (by decide) h5).symm.trans c)))
        replace H := H.2 c9
        refine zW_gh 60 [some (.ref 75), some (.int (Int32.ofNat a0)), some (.int a1), some (.int (Int32.ofNat plc)), some (.int (zbi (zdgh tx len plc))), some (.int (1 : Int32)), none, none] [.int (1 : Int32), .ref 75] 2 (fun f => rfl) ?_
        exact H
  · have c9 : (zdgh tx len plc) = true := ((Bool.not_eq_false' _).mp ((zcB_eq _).symm.trans c))
    replace H := H.2 c9
    refine zW_gh 24 [some (.ref 75), some (.int (Int32.ofNat a0)), some (.int a1), some (.int (Int32.ofNat plc)), some (.int (zbi (zdgh tx len plc))), none, none, none] [.int (Int32.ofNat plc), .ref 82] 4 (fun f => rfl) ?_
    obtain ⟨h6, H⟩ := H
    refine zW_iald rfl (by decide) rfl (by decide) rfl h6 ?_
    refine zW_bh (zcmp .eq (zbi (zdgh tx len plc)) (0 : Int32)) 54 40 [some (.ref 75), some (.int (Int32.ofNat a0)), some (.int a1), some (.int (Int32.ofNat plc)), some (.int (zbi (zdgh tx len plc))), some (.int ((tx plc) - (48 : Int32))), none, none] [.ref 75] 7 (fun f => rfl) (fun c => ?_) (fun c => ?_)
    · have c9 : (zdgh tx len plc) = false := ((Bool.not_eq_true' _).mp ((zcB_eq _).symm.trans c))
      replace H := H.1 c9
      refine zW_gh 57 [some (.ref 75), some (.int (Int32.ofNat a0)), some (.int a1), some (.int (Int32.ofNat plc)), some (.int (zbi (zdgh tx len plc))), some (.int ((tx plc) - (48 : Int32))), none, none] [.int (120 : Int32), .ref 75, .ref 75] 2 (fun f => rfl) ?_
      obtain ⟨h7, H⟩ := H
      obtain ⟨h8, H⟩ := H
      refine zW_cl rfl rfl rfl rfl rfl (s228 h7 h8 ?_)
      change zW zm_238 60 [some (.ref 75), some (.int (Int32.ofNat a0)), some (.int a1), some (.int (Int32.ofNat plc)), some (.int (zbi (zdgh tx len plc))), some (.int ((tx plc) - (48 : Int32))), none, none] [.int (zbi (zhere tx len plc (120 : Int32))), .ref 75] p _ Q
      exact H
    · have c9 : (zdgh tx len plc) = true := ((Bool.not_eq_false' _).mp ((zcB_eq _).symm.trans c))
      replace H := H.2 c9
      refine zW_bh (zcmp .ge ((tx plc) - (48 : Int32)) (Int32.ofNat a0)) 50 46 [some (.ref 75), some (.int (Int32.ofNat a0)), some (.int a1), some (.int (Int32.ofNat plc)), some (.int (zbi (zdgh tx len plc))), some (.int ((tx plc) - (48 : Int32))), none, none] [.ref 75] 3 (fun f => rfl) (fun c => ?_) (fun c => ?_)
      · have c9 : (Int32.ofNat a0) ≤ ((tx plc) - (48 : Int32)) := (of_decide_eq_true c)
        replace H := H.1 c9
        refine zW_gh 60 [some (.ref 75), some (.int (Int32.ofNat a0)), some (.int a1), some (.int (Int32.ofNat plc)), some (.int (zbi (zdgh tx len plc))), some (.int ((tx plc) - (48 : Int32))), none, none] [.int (0 : Int32), .ref 75] 2 (fun f => rfl) ?_
        exact H
      · have c9 : ¬ (Int32.ofNat a0) ≤ ((tx plc) - (48 : Int32)) := (of_decide_eq_false c)
        replace H := H.2 c9
        refine zW_gh 60 [some (.ref 75), some (.int (Int32.ofNat a0)), some (.int a1), some (.int (Int32.ofNat plc)), some (.int (zbi (zdgh tx len plc))), some (.int ((tx plc) - (48 : Int32))), none, none] [.int (1 : Int32), .ref 75] 2 (fun f => rfl) ?_
        exact H
set_option maxRecDepth 20000 in
theorem b238_60 {K : zKt} {code rf rs pr pn ef es : Int32} {bad fin : Bool} {len plc rr rc om : Nat} {m pa pb pc vf vs tx rd ou : Nat → Int32} {w : Nat → Int64} {p : Nat × Nat} {Q : zR → zH → Prop} {x1 x3 : Nat} {x2 x5 : Int32} {x4 s0 : Bool} (H : (((fin && s0) = false → zW zm_238 85 [some (.ref 75), some (.int (Int32.ofNat x1)), some (.int x2), some (.int (Int32.ofNat x3)), none, some (.int x5), none, none] [.int (Int32.ofNat 0), .int (Int32.ofNat plc), .ref 75] p (zh K (code, rf, rs, bad, pr, pn, len, plc, (fin && s0), ef, es, rr, rc, om) (m, pa, pb, pc, vf, vs, tx, rd, ou) w) Q) ∧ ((fin && s0) = true → ((x4 = false → zW zm_238 85 [some (.ref 75), some (.int (Int32.ofNat x1)), some (.int x2), some (.int (Int32.ofNat x3)), none, some (.int x5), none, none] [.int (Int32.ofNat 0), .int (Int32.ofNat plc), .ref 75] p (zh K (code, rf, rs, bad, pr, pn, len, plc, (fin && s0), ef, es, rr, rc, om) (m, pa, pb, pc, vf, vs, tx, rd, ou) w) Q) ∧ (x4 = true → zW zm_238 85 [some (.ref 75), some (.int (Int32.ofNat x1)), some (.int x2), some (.int (Int32.ofNat x3)), none, some (.int x5), none, none] [.int (Int32.ofNat 1), .int (Int32.ofNat plc), .ref 75] p (zh K (code, rf, rs, bad, pr, pn, len, plc, (fin && s0), ef, es, rr, rc, om) (m, pa, pb, pc, vf, vs, tx, rd, ou) w) Q))))) : zW zm_238 60 [some (.ref 75), some (.int (Int32.ofNat x1)), some (.int x2), some (.int (Int32.ofNat x3)), some (.int (zbi x4)), some (.int x5), none, none] [.int (zbi s0), .ref 75] p (zh K (code, rf, rs, bad, pr, pn, len, plc, fin, ef, es, rr, rc, om) (m, pa, pb, pc, vf, vs, tx, rd, ou) w) Q := by
  refine zW_cl rfl rfl rfl rfl rfl ((s229 (b := s0)) ?_)
  change zW zm_238 63 [some (.ref 75), some (.int (Int32.ofNat x1)), some (.int x2), some (.int (Int32.ofNat x3)), some (.int (zbi x4)), some (.int x5), none, none] [] p _ Q
  refine zW_bh (zcmp .eq (zbi (fin && s0)) (0 : Int32)) 84 75 [some (.ref 75), some (.int (Int32.ofNat x1)), some (.int x2), some (.int (Int32.ofNat x3)), some (.int (zbi x4)), some (.int x5), none, none] [.int (Int32.ofNat plc), .ref 75] 6 (fun f => rfl) (fun c => ?_) (fun c => ?_)
  · have c9 : (fin && s0) = false := ((Bool.not_eq_true' _).mp ((zcB_eq _).symm.trans c))
    replace H := H.1 c9
    refine zW_gh 85 [some (.ref 75), some (.int (Int32.ofNat x1)), some (.int x2), some (.int (Int32.ofNat x3)), some (.int (zbi x4)), some (.int x5), none, none] [.int (0 : Int32), .int (Int32.ofNat plc), .ref 75] 1 (fun f => rfl) ?_
    refine zW_fg (L' := [some (.ref 75), some (.int (Int32.ofNat x1)), some (.int x2), some (.int (Int32.ofNat x3)), none, some (.int x5), none, none]) (zle_s _ (zle_s _ (zle_s _ (zle_s _ (zle_n _ (zle_s _ (zle_s _ (zle_s _ zle_nil)))))))) ?_
    exact H
  · have c9 : (fin && s0) = true := ((Bool.not_eq_false' _).mp ((zcB_eq _).symm.trans c))
    replace H := H.2 c9
    refine zW_bh (zcmp .eq (zbi x4) (0 : Int32)) 84 80 [some (.ref 75), some (.int (Int32.ofNat x1)), some (.int x2), some (.int (Int32.ofNat x3)), some (.int (zbi x4)), some (.int x5), none, none] [.int (Int32.ofNat plc), .ref 75] 2 (fun f => rfl) (fun c => ?_) (fun c => ?_)
    · have c9 : x4 = false := ((Bool.not_eq_true' _).mp ((zcB_eq _).symm.trans c))
      replace H := H.1 c9
      refine zW_gh 85 [some (.ref 75), some (.int (Int32.ofNat x1)), some (.int x2), some (.int (Int32.ofNat x3)), some (.int (zbi x4)), some (.int x5), none, none] [.int (0 : Int32), .int (Int32.ofNat plc), .ref 75] 1 (fun f => rfl) ?_
      refine zW_fg (L' := [some (.ref 75), some (.int (Int32.ofNat x1)), some (.int x2), some (.int (Int32.ofNat x3)), none, some (.int x5), none, none]) (zle_s _ (zle_s _ (zle_s _ (zle_s _ (zle_n _ (zle_s _ (zle_s _ (zle_s _ zle_nil)))))))) ?_
      exact H
    · have c9 : x4 = true := ((Bool.not_eq_false' _).mp ((zcB_eq _).symm.trans c))
      replace H := H.2 c9
      refine zW_gh 85 [some (.ref 75), some (.int (Int32.ofNat x1)), some (.int x2), some (.int (Int32.ofNat x3)), some (.int (zbi x4)), some (.int x5), none, none] [.int (1 : Int32), .int (Int32.ofNat plc), .ref 75] 2 (fun f => rfl) ?_
      refine zW_fg (L' := [some (.ref 75), some (.int (Int32.ofNat x1)), some (.int x2), some (.int (Int32.ofNat x3)), none, some (.int x5), none, none]) (zle_s _ (zle_s _ (zle_s _ (zle_s _ (zle_n _ (zle_s _ (zle_s _ (zle_s _ zle_nil)))))))) ?_
      exact H
set_option maxRecDepth 20000 in
theorem b238_85 {K : zKt} {code rf rs pr pn ef es : Int32} {bad fin : Bool} {len plc rr rc om : Nat} {m pa pb pc vf vs tx rd ou : Nat → Int32} {w : Nat → Int64} {p : Nat × Nat} {Q : zR → zH → Prop} {x1 x3 s0 s1 : Nat} {x2 x5 : Int32} (H : ((fin = false → zW zm_238 203 [some (.ref 75), some (.int (Int32.ofNat x1)), some (.int x2), some (.int (Int32.ofNat x3)), none, some (.int x5), some (.int (0 : Int32)), none] [] p (zh K (code, rf, rs, bad, pr, pn, len, (s1 + s0), fin, ef, es, rr, rc, om) (m, pa, pb, pc, vf, vs, tx, rd, ou) w) Q) ∧ (fin = true → (len ≤ 120 ∧ ((s1 + s0) < 2147483648 ∧ (((zhere tx len (s1 + s0) (120 : Int32)) = false → zW zm_238 203 [some (.ref 75), some (.int (Int32.ofNat x1)), some (.int x2), some (.int (Int32.ofNat x3)), none, some (.int x5), some (.int (0 : Int32)), none] [] p (zh K (code, rf, rs, bad, pr, pn, len, (s1 + s0), fin, ef, es, rr, rc, om) (m, pa, pb, pc, vf, vs, tx, rd, ou) w) Q) ∧ ((zhere tx len (s1 + s0) (120 : Int32)) = true → (len ≤ 120 ∧ (((s1 + s0) + 1) < 2147483648 ∧ (((zhere tx len ((s1 + s0) + 1) (94 : Int32)) = false → zW zm_238 203 [some (.ref 75), some (.int (Int32.ofNat x1)), some (.int x2), some (.int (Int32.ofNat x3)), none, some (.int x5), some (.int (1 : Int32)), none] [] p (zh K (code, rf, rs, bad, pr, pn, len, ((s1 + s0) + 1), fin, ef, es, rr, rc, om) (m, pa, pb, pc, vf, vs, tx, rd, ou) w) Q) ∧ ((zhere tx len ((s1 + s0) + 1) (94 : Int32)) = true → (len ≤ 120 ∧ ((((s1 + s0) + 1) + 1) < 2147483648 ∧ (((zdgh tx len (((s1 + s0) + 1) + 1)) = false → (((fin && false) = false → zW zm_238 203 [some (.ref 75), some (.int (Int32.ofNat x1)), some (.int x2), some (.int (Int32.ofNat x3)), none, some (.int x5), some (.int (8 : Int32)), none] [] p (zh K (code, rf, rs, bad, pr, pn, len, ((((s1 + s0) + 1) + 1) + 0), (fin && false), ef, es, rr, rc, om) (m, pa, pb, pc, vf, vs, tx, rd, ou) w) Q) ∧ ((fin && false) = true → zW zm_238 203 [some (.ref 75), some (.int (Int32.ofNat x1)), some (.int x2), some (.int (Int32.ofNat x3)), none, some (.int x5), some (.int (8 : Int32)), none] [] p (zh K (code, rf, rs, bad, pr, pn, len, ((((s1 + s0) + 1) + 1) + 1), (fin && false), ef, es, rr, rc, om) (m, pa, pb, pc, vf, vs, tx, rd, ou) w) Q))) ∧ ((zdgh tx len (((s1 + s0) + 1) + 1)) = true → ((((s1 + s0) + 1) + 1) < 120 ∧ (((8 : Int32) ≤ ((tx (((s1 + s0) + 1) + 1)) - (48 : Int32)) → (((fin && false) = false → zW zm_238 203 [some (.ref 75), some (.int (Int32.ofNat x1)), some (.int x2), some (.int (Int32.ofNat x3)), none, some (.int x5), some (.int ((tx (((s1 + s0) + 1) + 1)) - (48 : Int32))), none] [] p (zh K (code, rf, rs, bad, pr, pn, len, ((((s1 + s0) + 1) + 1) + 0), (fin && false), ef, es, rr, rc, om) (m, pa, pb, pc, vf, vs, tx, rd, ou) w) Q) ∧ ((fin && false) = true → zW zm_238 203 [some (.ref 75), some (.int (Int32.ofNat x1)), some (.int x2), some (.int (Int32.ofNat x3)), none, some (.int x5), some (.int ((tx (((s1 + s0) + 1) + 1)) - (48 : Int32))), none] [] p (zh K (code, rf, rs, bad, pr, pn, len, ((((s1 + s0) + 1) + 1) + 1), (fin && false), ef, es, rr, rc, om) (m, pa, pb, pc, vf, vs, tx, rd, ou) w) Q))) ∧ (¬ (8 : Int32) ≤ ((tx (((s1 + s0) + 1) + 1)) - (48 : Int32)) → (((fin && true) = false → zW zm_238 203 [some (.ref 75), some (.int (Int32.ofNat x1)), some (.int x2), some (.int (Int32.ofNat x3)), none, some (.int x5), some (.int ((tx (((s1 + s0) + 1) + 1)) - (48 : Int32))), none] [] p (zh K (code, rf, rs, bad, pr, pn, len, ((((s1 + s0) + 1) + 1) + 0), (fin && true), ef, es, rr, rc, om) (m, pa, pb, pc, vf, vs, tx, rd, ou) w) Q) ∧ ((fin && true) = true → zW zm_238 203 [some (.ref 75), some (.int (Int32.ofNat x1)), some (.int x2), some (.int (Int32.ofNat x3)), none, some (.int x5), some (.int ((tx (((s1 + s0) + 1) + 1)) - (48 : Int32))), none] [] p (zh K (code, rf, rs, bad, pr, pn, len, ((((s1 + s0) + 1) + 1) + 1), (fin && true), ef, es, rr, rc, om) (m, pa, pb, pc, vf, vs, tx, rd, ou) w) Q)))))))))))))))))))) : zW zm_238 85 [some (.ref 75), some (.int (Int32.ofNat x1)), some (.int x2), some (.int (Int32.ofNat x3)), none, some (.int x5), none, none] [.int (Int32.ofNat s0), .int (Int32.ofNat s1), .ref 75] p (zh K (code, rf, rs, bad, pr, pn, len, plc, fin, ef, es, rr, rc, om) (m, pa, pb, pc, vf, vs, tx, rd, ou) w) Q := by
  refine zW_gh 86 [some (.ref 75), some (.int (Int32.ofNat x1)), some (.int x2), some (.int (Int32.ofNat x3)), none, some (.int x5), none, none] [.int ((Int32.ofNat s1) + (Int32.ofNat s0)), .ref 75] 1 (fun f => rfl) ?_
  rw [show ((Int32.ofNat s1) + (Int32.ofNat s0)) = Int32.ofNat (s1 + s0) from (zN_a rfl rfl)]
  refine zW_go (pc' := 89) (L' := [some (.ref 75), some (.int (Int32.ofNat x1)), some (.int x2), some (.int (Int32.ofNat x3)), none, some (.int x5), none, none]) (st' := []) (h' := (va_up (zh K (code, rf, rs, bad, pr, pn, len, plc, fin, ef, es, rr, rc, om) (m, pa, pb, pc, vf, vs, tx, rd, ou) w) 75 (.inr (7, zfl (code, rf, rs, bad, pr, pn, len, (s1 + s0), fin, ef, es, rr, rc, om))))) 1 (fun f => rfl) ?_
  refine zW_eq zu_75 ?_
  refine zW_bh (zcmp .eq (zbi fin) (0 : Int32)) 203 99 [some (.ref 75), some (.int (Int32.ofNat x1)), some (.int x2), some (.int (Int32.ofNat x3)), none, some (.int x5), some (.int (0 : Int32)), none] [] 5 (fun f => rfl) (fun c => ?_) (fun c => ?_)
  · have c9 : fin = false := ((Bool.not_eq_true' _).mp ((zcB_eq _).symm.trans c))
    replace H := H.1 c9
    exact H
  · have c9 : fin = true := ((Bool.not_eq_false' _).mp ((zcB_eq _).symm.trans c))
    replace H := H.2 c9
    refine zW_gh 102 [some (.ref 75), some (.int (Int32.ofNat x1)), some (.int x2), some (.int (Int32.ofNat x3)), none, some (.int x5), some (.int (0 : Int32)), none] [.int (120 : Int32), .ref 75] 2 (fun f => rfl) ?_
    obtain ⟨h1, H⟩ := H
    obtain ⟨h2, H⟩ := H
    refine zW_cl rfl rfl rfl rfl rfl (s228 h1 h2 ?_)
    change zW zm_238 105 [some (.ref 75), some (.int (Int32.ofNat x1)), some (.int x2), some (.int (Int32.ofNat x3)), none, some (.int x5), some (.int (0 : Int32)), none] [.int (zbi (zhere tx len (s1 + s0) (120 : Int32)))] p _ Q
    refine zW_bh (zcmp .eq (zbi (zhere tx len (s1 + s0) (120 : Int32))) (0 : Int32)) 203 108 [some (.ref 75), some (.int (Int32.ofNat x1)), some (.int x2), some (.int (Int32.ofNat x3)), none, some (.int x5), some (.int (0 : Int32)), none] [] 1 (fun f => rfl) (fun c => ?_) (fun c => ?_)
    · have c9 : (zhere tx len (s1 + s0) (120 : Int32)) = false := ((Bool.not_eq_true' _).mp ((zcB_eq _).symm.trans c))
      replace H := H.1 c9
      exact H
    · have c9 : (zhere tx len (s1 + s0) (120 : Int32)) = true := ((Bool.not_eq_false' _).mp ((zcB_eq _).symm.trans c))
      replace H := H.2 c9
      refine zW_gh 115 [some (.ref 75), some (.int (Int32.ofNat x1)), some (.int x2), some (.int (Int32.ofNat x3)), none, some (.int x5), some (.int (0 : Int32)), none] [.int ((Int32.ofNat (s1 + s0)) + (1 : Int32)), .ref 75] 5 (fun f => rfl) ?_
      rw [show ((Int32.ofNat (s1 + s0)) + (1 : Int32)) = Int32.ofNat ((s1 + s0) + 1) from (zN_a rfl rfl)]
      refine zW_go (pc' := 118) (L' := [some (.ref 75), some (.int (Int32.ofNat x1)), some (.int x2), some (.int (Int32.ofNat x3)), none, some (.int x5), some (.int (0 : Int32)), none]) (st' := []) (h' := (va_up (zh K (code, rf, rs, bad, pr, pn, len, (s1 + s0), fin, ef, es, rr, rc, om) (m, pa, pb, pc, vf, vs, tx, rd, ou) w) 75 (.inr (7, zfl (code, rf, rs, bad, pr, pn, len, ((s1 + s0) + 1), fin, ef, es, rr, rc, om))))) 1 (fun f => rfl) ?_
      refine zW_eq zu_75 ?_
      refine zW_gh 124 [some (.ref 75), some (.int (Int32.ofNat x1)), some (.int x2), some (.int (Int32.ofNat x3)), none, some (.int x5), some (.int (1 : Int32)), none] [.int (94 : Int32), .ref 75] 4 (fun f => rfl) ?_
      obtain ⟨h3, H⟩ := H
      obtain ⟨h4, H⟩ := H
      refine zW_cl rfl rfl rfl rfl rfl (s228 h3 h4 ?_)
      change zW zm_238 127 [some (.ref 75), some (.int (Int32.ofNat x1)), some (.int x2), some (.int (Int32.ofNat x3)), none, some (.int x5), some (.int (1 : Int32)), none] [.int (zbi (zhere tx len ((s1 + s0) + 1) (94 : Int32)))] p _ Q
      refine zW_bh (zcmp .eq (zbi (zhere tx len ((s1 + s0) + 1) (94 : Int32))) (0 : Int32)) 203 130 [some (.ref 75), some (.int (Int32.ofNat x1)), some (.int x2), some (.int (Int32.ofNat x3)), none, some (.int x5), some (.int (1 : Int32)), none] [] 1 (fun f => rfl) (fun c => ?_) (fun c => ?_)
      · have c9 : (zhere tx len ((s1 + s0) + 1) (94 : Int32)) = false := ((Bool.not_eq_true' _).mp ((zcB_eq _).symm.trans c))
        replace H := H.1 c9
        exact H
      · have c9 : (zhere tx len ((s1 + s0) + 1) (94 : Int32)) = true := ((Bool.not_eq_false' _).mp ((zcB_eq _).symm.trans c))
        replace H := H.2 c9
        refine zW_gh 137 [some (.ref 75), some (.int (Int32.ofNat x1)), some (.int x2), some (.int (Int32.ofNat x3)), none, some (.int x5), some (.int (1 : Int32)), none] [.int ((Int32.ofNat ((s1 + s0) + 1)) + (1 : Int32)), .ref 75] 5 (fun f => rfl) ?_
        rw [show ((Int32.ofNat ((s1 + s0) + 1)) + (1 : Int32)) = Int32.ofNat (((s1 + s0) + 1) + 1) from (zN_a rfl rfl)]
        refine zW_go (pc' := 140) (L' := [some (.ref 75), some (.int (Int32.ofNat x1)), some (.int x2), some (.int (Int32.ofNat x3)), none, some (.int x5), some (.int (1 : Int32)), none]) (st' := []) (h' := (va_up (zh K (code, rf, rs, bad, pr, pn, len, ((s1 + s0) + 1), fin, ef, es, rr, rc, om) (m, pa, pb, pc, vf, vs, tx, rd, ou) w) 75 (.inr (7, zfl (code, rf, rs, bad, pr, pn, len, (((s1 + s0) + 1) + 1), fin, ef, es, rr, rc, om))))) 1 (fun f => rfl) ?_
        refine zW_eq zu_75 ?_
        refine zW_gh 141 [some (.ref 75), some (.int (Int32.ofNat x1)), some (.int x2), some (.int (Int32.ofNat x3)), none, some (.int x5), some (.int (1 : Int32)), none] [.ref 75] 1 (fun f => rfl) ?_
        obtain ⟨h5, H⟩ := H
        obtain ⟨h6, H⟩ := H
        refine zW_cl rfl rfl rfl rfl rfl (s235 h5 h6 ?_)
        change zW zm_238 144 [some (.ref 75), some (.int (Int32.ofNat x1)), some (.int x2), some (.int (Int32.ofNat x3)), none, some (.int x5), some (.int (1 : Int32)), none] [.int (zbi (zdgh tx len (((s1 + s0) + 1) + 1)))] p _ Q
        refine zW_bh (zcmp .eq (zbi (zdgh tx len (((s1 + s0) + 1) + 1))) (0 : Int32)) 162 147 [some (.ref 75), some (.int (Int32.ofNat x1)), some (.int x2), some (.int (Int32.ofNat x3)), none, some (.int x5), some (.int (1 : Int32)), none] [] 1 (fun f => rfl) (fun c => ?_) (fun c => ?_)
        · have c9 : (zdgh tx len (((s1 + s0) + 1) + 1)) = false := ((Bool.not_eq_true' _).mp ((zcB_eq _).symm.trans c))
          replace H := H.1 c9
          refine zW_gh 179 [some (.ref 75), some (.int (Int32.ofNat x1)), some (.int x2), some (.int (Int32.ofNat x3)), none, some (.int x5), some (.int (8 : Int32)), none] [.int (0 : Int32), .ref 75] 7 (fun f => rfl) ?_
          refine zW_cl rfl rfl rfl rfl rfl ((s229 (b := false)) ?_)
          change zW zm_238 182 [some (.ref 75), some (.int (Int32.ofNat x1)), some (.int x2), some (.int (Int32.ofNat x3)), none, some (.int x5), some (.int (8 : Int32)), none] [] p _ Q
          refine zW_bh (zcmp .eq (zbi (fin && false)) (0 : Int32)) 198 194 [some (.ref 75), some (.int (Int32.ofNat x1)), some (.int x2), some (.int (Int32.ofNat x3)), none, some (.int x5), some (.int (8 : Int32)), none] [.int (Int32.ofNat (((s1 + s0) + 1) + 1)), .ref 75] 6 (fun f => rfl) (fun c => ?_) (fun c => ?_)
          · have c9 : (fin && false) = false := ((Bool.not_eq_true' _).mp ((zcB_eq _).symm.trans c))
            replace H := H.1 c9
            refine zW_gh 200 [some (.ref 75), some (.int (Int32.ofNat x1)), some (.int x2), some (.int (Int32.ofNat x3)), none, some (.int x5), some (.int (8 : Int32)), none] [.int ((Int32.ofNat (((s1 + s0) + 1) + 1)) + (0 : Int32)), .ref 75] 2 (fun f => rfl) ?_
            rw [show ((Int32.ofNat (((s1 + s0) + 1) + 1)) + (0 : Int32)) = Int32.ofNat ((((s1 + s0) + 1) + 1) + 0) from (zN_a rfl rfl)]
            refine zW_go (pc' := 203) (L' := [some (.ref 75), some (.int (Int32.ofNat x1)), some (.int x2), some (.int (Int32.ofNat x3)), none, some (.int x5), some (.int (8 : Int32)), none]) (st' := []) (h' := (va_up (zh K (code, rf, rs, bad, pr, pn, len, (((s1 + s0) + 1) + 1), (fin && false), ef, es, rr, rc, om) (m, pa, pb, pc, vf, vs, tx, rd, ou) w) 75 (.inr (7, zfl (code, rf, rs, bad, pr, pn, len, ((((s1 + s0) + 1) + 1) + 0), (fin && false), ef, es, rr, rc, om))))) 1 (fun f => rfl) ?_
            refine zW_eq zu_75 ?_
            exact H
          · have c9 : (fin && false) = true := ((Bool.not_eq_false' _).mp ((zcB_eq _).symm.trans c))
            replace H := H.2 c9
            refine zW_gh 200 [some (.ref 75), some (.int (Int32.ofNat x1)), some (.int x2), some (.int (Int32.ofNat x3)), none, some (.int x5), some (.int (8 : Int32)), none] [.int ((Int32.ofNat (((s1 + s0) + 1) + 1)) + (1 : Int32)), .ref 75] 3 (fun f => rfl) ?_
            rw [show ((Int32.ofNat (((s1 + s0) + 1) + 1)) + (1 : Int32)) = Int32.ofNat ((((s1 + s0) + 1) + 1) + 1) from (zN_a rfl rfl)]
            refine zW_go (pc' := 203) (L' := [some (.ref 75), some (.int (Int32.ofNat x1)), some (.int x2), some (.int (Int32.ofNat x3)), none, some (.int x5), some (.int (8 : Int32)), none]) (st' := []) (h' := (va_up (zh K (code, rf, rs, bad, pr, pn, len, (((s1 + s0) + 1) + 1), (fin && false), ef, es, rr, rc, om) (m, pa, pb, pc, vf, vs, tx, rd, ou) w) 75 (.inr (7, zfl (code, rf, rs, bad, pr, pn, len, ((((s1 + s0) + 1) + 1) + 1), (fin && false), ef, es, rr, rc, om))))) 1 (fun f => rfl) ?_
            refine zW_eq zu_75 ?_
            exact H
        · have c9 : (zdgh tx len (((s1 + s0) + 1) + 1)) = true := ((Bool.not_eq_false' _).mp ((zcB_eq _).symm.trans c))
          replace H := H.2 c9
          refine zW_gh 155 [some (.ref 75), some (.int (Int32.ofNat x1)), some (.int x2), some (.int (Int32.ofNat x3)), none, some (.int x5), some (.int (1 : Int32)), none] [.int (Int32.ofNat (((s1 + s0) + 1) + 1)), .ref 82] 4 (fun f => rfl) ?_
          obtain ⟨h7, H⟩ := H
          refine zW_iald rfl (by decide) rfl (by decide) rfl h7 ?_
          refine zW_bh (zcmp .ge ((tx (((s1 + s0) + 1) + 1)) - (48 : Int32)) (8 : Int32)) 178 174 [some (.ref 75), some (.int (Int32.ofNat x1)), some (.int x2), some (.int (Int32.ofNat x3)), none, some (.int x5), some (.int ((tx (((s1 + s0) + 1) + 1)) - (48 : Int32))), none] [.ref 75] 8 (fun f => rfl) (fun c => ?_) (fun c => ?_)
          · have c9 : (8 : Int32) ≤ ((tx (((s1 + s0) + 1) + 1)) - (48 : Int32)) := (of_decide_eq_true c)
            replace H := H.1 c9
            refine zW_gh 179 [some (.ref 75), some (.int (Int32.ofNat x1)), some (.int x2), some (.int (Int32.ofNat x3)), none, some (.int x5), some (.int ((tx (((s1 + s0) + 1) + 1)) - (48 : Int32))), none] [.int (0 : Int32), .ref 75] 1 (fun f => rfl) ?_
            refine zW_cl rfl rfl rfl rfl rfl ((s229 (b := false)) ?_)
            change zW zm_238 182 [some (.ref 75), some (.int (Int32.ofNat x1)), some (.int x2), some (.int (Int32.ofNat x3)), none, some (.int x5), some (.int ((tx (((s1 + s0) + 1) + 1)) - (48 : Int32))), none] [] p _ Q
            refine zW_bh (zcmp .eq (zbi (fin && false)) (0 : Int32)) 198 194 [some (.ref 75), some (.int (Int32.ofNat x1)), some (.int x2), some (.int (Int32.ofNat x3)), none, some (.int x5), some (.int ((tx (((s1 + s0) + 1) + 1)) - (48 : Int32))), none] [.int (Int32.ofNat (((s1 + s0) + 1) + 1)), .ref 75] 6 (fun f => rfl) (fun c => ?_) (fun c => ?_)
            · have c9 : (fin && false) = false := ((Bool.not_eq_true' _).mp ((zcB_eq _).symm.trans c))
              replace H := H.1 c9
              refine zW_gh 200 [some (.ref 75), some (.int (Int32.ofNat x1)), some (.int x2), some (.int (Int32.ofNat x3)), none, some (.int x5), some (.int ((tx (((s1 + s0) + 1) + 1)) - (48 : Int32))), none] [.int ((Int32.ofNat (((s1 + s0) + 1) + 1)) + (0 : Int32)), .ref 75] 2 (fun f => rfl) ?_
              rw [show ((Int32.ofNat (((s1 + s0) + 1) + 1)) + (0 : Int32)) = Int32.ofNat ((((s1 + s0) + 1) + 1) + 0) from (zN_a rfl rfl)]
              refine zW_go (pc' := 203) (L' := [some (.ref 75), some (.int (Int32.ofNat x1)), some (.int x2), some (.int (Int32.ofNat x3)), none, some (.int x5), some (.int ((tx (((s1 + s0) + 1) + 1)) - (48 : Int32))), none]) (st' := []) (h' := (va_up (zh K (code, rf, rs, bad, pr, pn, len, (((s1 + s0) + 1) + 1), (fin && false), ef, es, rr, rc, om) (m, pa, pb, pc, vf, vs, tx, rd, ou) w) 75 (.inr (7, zfl (code, rf, rs, bad, pr, pn, len, ((((s1 + s0) + 1) + 1) + 0), (fin && false), ef, es, rr, rc, om))))) 1 (fun f => rfl) ?_
              refine zW_eq zu_75 ?_
              exact H
            · have c9 : (fin && false) = true := ((Bool.not_eq_false' _).mp ((zcB_eq _).symm.trans c))
              replace H := H.2 c9
              refine zW_gh 200 [some (.ref 75), some (.int (Int32.ofNat x1)), some (.int x2), some (.int (Int32.ofNat x3)), none, some (.int x5), some (.int ((tx (((s1 + s0) + 1) + 1)) - (48 : Int32))), none] [.int ((Int32.ofNat (((s1 + s0) + 1) + 1)) + (1 : Int32)), .ref 75] 3 (fun f => rfl) ?_
              rw [show ((Int32.ofNat (((s1 + s0) + 1) + 1)) + (1 : Int32)) = Int32.ofNat ((((s1 + s0) + 1) + 1) + 1) from (zN_a rfl rfl)]
              refine zW_go (pc' := 203) (L' := [some (.ref 75), some (.int (Int32.ofNat x1)), some (.int x2), some (.int (Int32.ofNat x3)), none, some (.int x5), some (.int ((tx (((s1 + s0) + 1) + 1)) - (48 : Int32))), none]) (st' := []) (h' := (va_up (zh K (code, rf, rs, bad, pr, pn, len, (((s1 + s0) + 1) + 1), (fin && false), ef, es, rr, rc, om) (m, pa, pb, pc, vf, vs, tx, rd, ou) w) 75 (.inr (7, zfl (code, rf, rs, bad, pr, pn, len, ((((s1 + s0) + 1) + 1) + 1), (fin && false), ef, es, rr, rc, om))))) 1 (fun f => rfl) ?_
              refine zW_eq zu_75 ?_
              exact H
          · have c9 : ¬ (8 : Int32) ≤ ((tx (((s1 + s0) + 1) + 1)) - (48 : Int32)) := (of_decide_eq_false c)
            replace H := H.2 c9
            refine zW_gh 179 [some (.ref 75), some (.int (Int32.ofNat x1)), some (.int x2), some (.int (Int32.ofNat x3)), none, some (.int x5), some (.int ((tx (((s1 + s0) + 1) + 1)) - (48 : Int32))), none] [.int (1 : Int32), .ref 75] 2 (fun f => rfl) ?_
            refine zW_cl rfl rfl rfl rfl rfl ((s229 (b := true)) ?_)
            change zW zm_238 182 [some (.ref 75), some (.int (Int32.ofNat x1)), some (.int x2), some (.int (Int32.ofNat x3)), none, some (.int x5), some (.int ((tx (((s1 + s0) + 1) + 1)) - (48 : Int32))), none] [] p _ Q
            refine zW_bh (zcmp .eq (zbi (fin && true)) (0 : Int32)) 198 194 [some (.ref 75), some (.int (Int32.ofNat x1)), some (.int x2), some (.int (Int32.ofNat x3)), none, some (.int x5), some (.int ((tx (((s1 + s0) + 1) + 1)) - (48 : Int32))), none] [.int (Int32.ofNat (((s1 + s0) + 1) + 1)), .ref 75] 6 (fun f => rfl) (fun c => ?_) (fun c => ?_)
            · have c9 : (fin && true) = false := ((Bool.not_eq_true' _).mp ((zcB_eq _).symm.trans c))
              replace H := H.1 c9
              refine zW_gh 200 [some (.ref 75), some (.int (Int32.ofNat x1)), some (.int x2), some (.int (Int32.ofNat x3)), none, some (.int x5), some (.int ((tx (((s1 + s0) + 1) + 1)) - (48 : Int32))), none] [.int ((Int32.ofNat (((s1 + s0) + 1) + 1)) + (0 : Int32)), .ref 75] 2 (fun f => rfl) ?_
              rw [show ((Int32.ofNat (((s1 + s0) + 1) + 1)) + (0 : Int32)) = Int32.ofNat ((((s1 + s0) + 1) + 1) + 0) from (zN_a rfl rfl)]
              refine zW_go (pc' := 203) (L' := [some (.ref 75), some (.int (Int32.ofNat x1)), some (.int x2), some (.int (Int32.ofNat x3)), none, some (.int x5), some (.int ((tx (((s1 + s0) + 1) + 1)) - (48 : Int32))), none]) (st' := []) (h' := (va_up (zh K (code, rf, rs, bad, pr, pn, len, (((s1 + s0) + 1) + 1), (fin && true), ef, es, rr, rc, om) (m, pa, pb, pc, vf, vs, tx, rd, ou) w) 75 (.inr (7, zfl (code, rf, rs, bad, pr, pn, len, ((((s1 + s0) + 1) + 1) + 0), (fin && true), ef, es, rr, rc, om))))) 1 (fun f => rfl) ?_
              refine zW_eq zu_75 ?_
              exact H
            · have c9 : (fin && true) = true := ((Bool.not_eq_false' _).mp ((zcB_eq _).symm.trans c))
              replace H := H.2 c9
              refine zW_gh 200 [some (.ref 75), some (.int (Int32.ofNat x1)), some (.int x2), some (.int (Int32.ofNat x3)), none, some (.int x5), some (.int ((tx (((s1 + s0) + 1) + 1)) - (48 : Int32))), none] [.int ((Int32.ofNat (((s1 + s0) + 1) + 1)) + (1 : Int32)), .ref 75] 3 (fun f => rfl) ?_
              rw [show ((Int32.ofNat (((s1 + s0) + 1) + 1)) + (1 : Int32)) = Int32.ofNat ((((s1 + s0) + 1) + 1) + 1) from (zN_a rfl rfl)]
              refine zW_go (pc' := 203) (L' := [some (.ref 75), some (.int (Int32.ofNat x1)), some (.int x2), some (.int (Int32.ofNat x3)), none, some (.int x5), some (.int ((tx (((s1 + s0) + 1) + 1)) - (48 : Int32))), none]) (st' := []) (h' := (va_up (zh K (code, rf, rs, bad, pr, pn, len, (((s1 + s0) + 1) + 1), (fin && true), ef, es, rr, rc, om) (m, pa, pb, pc, vf, vs, tx, rd, ou) w) 75 (.inr (7, zfl (code, rf, rs, bad, pr, pn, len, ((((s1 + s0) + 1) + 1) + 1), (fin && true), ef, es, rr, rc, om))))) 1 (fun f => rfl) ?_
              refine zW_eq zu_75 ?_
              exact H
set_option maxRecDepth 20000 in
theorem b238_203 {K : zKt} {code rf rs pr pn ef es : Int32} {bad fin : Bool} {len plc rr rc om : Nat} {m pa pb pc vf vs tx rd ou : Nat → Int32} {w : Nat → Int64} {p : Nat × Nat} {Q : zR → zH → Prop} {x1 x3 : Nat} {x2 x5 x6 : Int32} (H : ((fin = false → zW zm_238 226 [some (.ref 75), some (.int (Int32.ofNat x1)), none, none, none, some (.int x5), some (.int x6), none] [] p (zh K (code, rf, rs, bad, pr, pn, len, plc, fin, ef, es, rr, rc, om) (m, pa, pb, pc, vf, vs, tx, rd, ou) w) Q) ∧ (fin = true → ((x6 < x2 → zW zm_238 226 [some (.ref 75), some (.int (Int32.ofNat x1)), none, none, none, some (.int x5), some (.int x6), none] [] p (zh K (code, rf, rs, bad, pr, pn, len, plc, fin, ef, es, rr, rc, om) (m, pa, pb, pc, vf, vs, tx, rd, ou) w) Q) ∧ (¬ x6 < x2 → zW zm_238 226 [some (.ref 75), some (.int (Int32.ofNat x1)), none, none, none, some (.int x5), some (.int x6), none] [] p (zh K (code, rf, rs, bad, pr, pn, len, x3, false, ef, es, rr, rc, om) (m, pa, pb, pc, vf, vs, tx, rd, ou) w) Q))))) : zW zm_238 203 [some (.ref 75), some (.int (Int32.ofNat x1)), some (.int x2), some (.int (Int32.ofNat x3)), none, some (.int x5), some (.int x6), none] [] p (zh K (code, rf, rs, bad, pr, pn, len, plc, fin, ef, es, rr, rc, om) (m, pa, pb, pc, vf, vs, tx, rd, ou) w) Q := by
  refine zW_bh (zcmp .eq (zbi fin) (0 : Int32)) 226 210 [some (.ref 75), some (.int (Int32.ofNat x1)), some (.int x2), some (.int (Int32.ofNat x3)), none, some (.int x5), some (.int x6), none] [] 3 (fun f => rfl) (fun c => ?_) (fun c => ?_)
  · have c9 : fin = false := ((Bool.not_eq_true' _).mp ((zcB_eq _).symm.trans c))
    replace H := H.1 c9
    refine zW_fg (L' := [some (.ref 75), some (.int (Int32.ofNat x1)), none, none, none, some (.int x5), some (.int x6), none]) (zle_s _ (zle_s _ (zle_n _ (zle_n _ (zle_s _ (zle_s _ (zle_s _ (zle_s _ zle_nil)))))))) ?_
    exact H
  · have c9 : fin = true := ((Bool.not_eq_false' _).mp ((zcB_eq _).symm.trans c))
    replace H := H.2 c9
    refine zW_bh (zcmp .lt x6 x2) 226 216 [some (.ref 75), some (.int (Int32.ofNat x1)), some (.int x2), some (.int (Int32.ofNat x3)), none, some (.int x5), some (.int x6), none] [] 3 (fun f => rfl) (fun c => ?_) (fun c => ?_)
    · have c9 : x6 < x2 := (of_decide_eq_true c)
      replace H := H.1 c9
      refine zW_fg (L' := [some (.ref 75), some (.int (Int32.ofNat x1)), none, none, none, some (.int x5), some (.int x6), none]) (zle_s _ (zle_s _ (zle_n _ (zle_n _ (zle_s _ (zle_s _ (zle_s _ (zle_s _ zle_nil)))))))) ?_
      exact H
    · have c9 : ¬ x6 < x2 := (of_decide_eq_false c)
      replace H := H.2 c9
      refine zW_gh 218 [some (.ref 75), some (.int (Int32.ofNat x1)), some (.int x2), some (.int (Int32.ofNat x3)), none, some (.int x5), some (.int x6), none] [.int (0 : Int32), .ref 75] 2 (fun f => rfl) ?_
      refine zW_go (pc' := 221) (L' := [some (.ref 75), some (.int (Int32.ofNat x1)), some (.int x2), some (.int (Int32.ofNat x3)), none, some (.int x5), some (.int x6), none]) (st' := []) (h' := (va_up (zh K (code, rf, rs, bad, pr, pn, len, plc, fin, ef, es, rr, rc, om) (m, pa, pb, pc, vf, vs, tx, rd, ou) w) 75 (.inr (7, zfl (code, rf, rs, bad, pr, pn, len, plc, false, ef, es, rr, rc, om))))) 1 (fun f => rfl) ?_
      refine zW_eq zu_75 ?_
      refine zW_gh 223 [some (.ref 75), some (.int (Int32.ofNat x1)), some (.int x2), some (.int (Int32.ofNat x3)), none, some (.int x5), some (.int x6), none] [.int (Int32.ofNat x3), .ref 75] 2 (fun f => rfl) ?_
      refine zW_go (pc' := 226) (L' := [some (.ref 75), some (.int (Int32.ofNat x1)), some (.int x2), some (.int (Int32.ofNat x3)), none, some (.int x5), some (.int x6), none]) (st' := []) (h' := (va_up (zh K (code, rf, rs, bad, pr, pn, len, plc, false, ef, es, rr, rc, om) (m, pa, pb, pc, vf, vs, tx, rd, ou) w) 75 (.inr (7, zfl (code, rf, rs, bad, pr, pn, len, x3, false, ef, es, rr, rc, om))))) 1 (fun f => rfl) ?_
      refine zW_eq zu_75 ?_
      refine zW_fg (L' := [some (.ref 75), some (.int (Int32.ofNat x1)), none, none, none, some (.int x5), some (.int x6), none]) (zle_s _ (zle_s _ (zle_n _ (zle_n _ (zle_s _ (zle_s _ (zle_s _ (zle_s _ zle_nil)))))))) ?_
      exact H
set_option maxRecDepth 20000 in
theorem b238_226 {K : zKt} {code rf rs pr pn ef es : Int32} {bad fin : Bool} {len plc rr rc om : Nat} {m pa pb pc vf vs tx rd ou : Nat → Int32} {w : Nat → Int64} {p : Nat × Nat} {Q : zR → zH → Prop} {x1 : Nat} {x5 x6 : Int32} (H : zW zm_238 229 [some (.ref 75), some (.int (Int32.ofNat x1)), none, none, none, some (.int x5), some (.int x6), some (.int (Int32.ofNat 0))] [] p (zh K (code, rf, rs, bad, pr, pn, len, plc, fin, ef, es, rr, rc, om) (m, pa, pb, pc, vf, vs, tx, rd, ou) w) Q) : zW zm_238 226 [some (.ref 75), some (.int (Int32.ofNat x1)), none, none, none, some (.int x5), some (.int x6), none] [] p (zh K (code, rf, rs, bad, pr, pn, len, plc, fin, ef, es, rr, rc, om) (m, pa, pb, pc, vf, vs, tx, rd, ou) w) Q := by
  refine zW_gh 229 [some (.ref 75), some (.int (Int32.ofNat x1)), none, none, none, some (.int x5), some (.int x6), some (.int (0 : Int32))] [] 2 (fun f => rfl) ?_
  exact H
set_option maxRecDepth 20000 in
theorem b238_229 {K : zKt} {code rf rs pr pn ef es : Int32} {bad fin : Bool} {len plc rr rc om : Nat} {m pa pb pc vf vs tx rd ou : Nat → Int32} {w : Nat → Int64} {p : Nat × Nat} {Q : zR → zH → Prop} {x1 x7 : Nat} {x5 x6 : Int32} (H : ((x6 ≤ (Int32.ofNat x7) → ((fin = false → Q (.inl (some (.int x6))) (zh K (code, rf, rs, bad, pr, pn, len, plc, fin, (ef + (0 : Int32)), es, rr, rc, om) (m, pa, pb, pc, vf, vs, tx, rd, ou) w)) ∧ (fin = true → Q (.inl (some (.int x6))) (zh K (code, rf, rs, bad, pr, pn, len, plc, fin, (ef + x5), es, rr, rc, om) (m, pa, pb, pc, vf, vs, tx, rd, ou) w)))) ∧ (¬ x6 ≤ (Int32.ofNat x7) → ((fin = false → ((fin = false → Q (.inl (some (.int x6))) (zh K (code, rf, rs, bad, pr, pn, len, plc, fin, (ef + (0 : Int32)), es, rr, rc, om) (m, pa, pb, pc, vf, vs, tx, rd, ou) w)) ∧ (fin = true → Q (.inl (some (.int x6))) (zh K (code, rf, rs, bad, pr, pn, len, plc, fin, (ef + x5), es, rr, rc, om) (m, pa, pb, pc, vf, vs, tx, rd, ou) w)))) ∧ (fin = true → zW zm_238 229 [some (.ref 75), some (.int (Int32.ofNat x1)), none, none, none, some (.int (x5 * (Int32.ofNat x1))), some (.int x6), some (.int (Int32.ofNat (x7 + 1)))] [] p (zh K (code, rf, rs, bad, pr, pn, len, plc, fin, ef, es, rr, rc, om) (m, pa, pb, pc, vf, vs, tx, rd, ou) w) Q))))) : zW zm_238 229 [some (.ref 75), some (.int (Int32.ofNat x1)), none, none, none, some (.int x5), some (.int x6), some (.int (Int32.ofNat x7))] [] p (zh K (code, rf, rs, bad, pr, pn, len, plc, fin, ef, es, rr, rc, om) (m, pa, pb, pc, vf, vs, tx, rd, ou) w) Q := by
  refine zW_bh (zcmp .ge (Int32.ofNat x7) x6) 255 236 [some (.ref 75), some (.int (Int32.ofNat x1)), none, none, none, some (.int x5), some (.int x6), some (.int (Int32.ofNat x7))] [] 3 (fun f => rfl) (fun c => ?_) (fun c => ?_)
  · have c9 : x6 ≤ (Int32.ofNat x7) := (of_decide_eq_true c)
    replace H := H.1 c9
    refine zW_bh (zcmp .eq (zbi fin) (0 : Int32)) 272 267 [some (.ref 75), some (.int (Int32.ofNat x1)), none, none, none, some (.int x5), some (.int x6), some (.int (Int32.ofNat x7))] [.int ef, .ref 75] 6 (fun f => rfl) (fun c => ?_) (fun c => ?_)
    · have c9 : fin = false := ((Bool.not_eq_true' _).mp ((zcB_eq _).symm.trans c))
      replace H := H.1 c9
      refine zW_gh 274 [some (.ref 75), some (.int (Int32.ofNat x1)), none, none, none, some (.int x5), some (.int x6), some (.int (Int32.ofNat x7))] [.int (ef + (0 : Int32)), .ref 75] 2 (fun f => rfl) ?_
      refine zW_go (pc' := 277) (L' := [some (.ref 75), some (.int (Int32.ofNat x1)), none, none, none, some (.int x5), some (.int x6), some (.int (Int32.ofNat x7))]) (st' := []) (h' := (va_up (zh K (code, rf, rs, bad, pr, pn, len, plc, fin, ef, es, rr, rc, om) (m, pa, pb, pc, vf, vs, tx, rd, ou) w) 75 (.inr (7, zfl (code, rf, rs, bad, pr, pn, len, plc, fin, (ef + (0 : Int32)), es, rr, rc, om))))) 1 (fun f => rfl) ?_
      refine zW_eq zu_75 ?_
      refine zW_gh 279 [some (.ref 75), some (.int (Int32.ofNat x1)), none, none, none, some (.int x5), some (.int x6), some (.int (Int32.ofNat x7))] [.int x6] 1 (fun f => rfl) ?_
      exact zW_rh (some (.int x6)) 1 (fun f => rfl) H
    · have c9 : fin = true := ((Bool.not_eq_false' _).mp ((zcB_eq _).symm.trans c))
      replace H := H.2 c9
      refine zW_gh 274 [some (.ref 75), some (.int (Int32.ofNat x1)), none, none, none, some (.int x5), some (.int x6), some (.int (Int32.ofNat x7))] [.int (ef + x5), .ref 75] 3 (fun f => rfl) ?_
      refine zW_go (pc' := 277) (L' := [some (.ref 75), some (.int (Int32.ofNat x1)), none, none, none, some (.int x5), some (.int x6), some (.int (Int32.ofNat x7))]) (st' := []) (h' := (va_up (zh K (code, rf, rs, bad, pr, pn, len, plc, fin, ef, es, rr, rc, om) (m, pa, pb, pc, vf, vs, tx, rd, ou) w) 75 (.inr (7, zfl (code, rf, rs, bad, pr, pn, len, plc, fin, (ef + x5), es, rr, rc, om))))) 1 (fun f => rfl) ?_
      refine zW_eq zu_75 ?_
      refine zW_gh 279 [some (.ref 75), some (.int (Int32.ofNat x1)), none, none, none, some (.int x5), some (.int x6), some (.int (Int32.ofNat x7))] [.int x6] 1 (fun f => rfl) ?_
      exact zW_rh (some (.int x6)) 1 (fun f => rfl) H
  · have c9 : ¬ x6 ≤ (Int32.ofNat x7) := (of_decide_eq_false c)
    replace H := H.2 c9
    refine zW_bh (zcmp .eq (zbi fin) (0 : Int32)) 255 243 [some (.ref 75), some (.int (Int32.ofNat x1)), none, none, none, some (.int x5), some (.int x6), some (.int (Int32.ofNat x7))] [] 3 (fun f => rfl) (fun c => ?_) (fun c => ?_)
    · have c9 : fin = false := ((Bool.not_eq_true' _).mp ((zcB_eq _).symm.trans c))
      replace H := H.1 c9
      refine zW_bh (zcmp .eq (zbi fin) (0 : Int32)) 272 267 [some (.ref 75), some (.int (Int32.ofNat x1)), none, none, none, some (.int x5), some (.int x6), some (.int (Int32.ofNat x7))] [.int ef, .ref 75] 6 (fun f => rfl) (fun c => ?_) (fun c => ?_)
      · have c9 : fin = false := ((Bool.not_eq_true' _).mp ((zcB_eq _).symm.trans c))
        replace H := H.1 c9
        refine zW_gh 274 [some (.ref 75), some (.int (Int32.ofNat x1)), none, none, none, some (.int x5), some (.int x6), some (.int (Int32.ofNat x7))] [.int (ef + (0 : Int32)), .ref 75] 2 (fun f => rfl) ?_
        refine zW_go (pc' := 277) (L' := [some (.ref 75), some (.int (Int32.ofNat x1)), none, none, none, some (.int x5), some (.int x6), some (.int (Int32.ofNat x7))]) (st' := []) (h' := (va_up (zh K (code, rf, rs, bad, pr, pn, len, plc, fin, ef, es, rr, rc, om) (m, pa, pb, pc, vf, vs, tx, rd, ou) w) 75 (.inr (7, zfl (code, rf, rs, bad, pr, pn, len, plc, fin, (ef + (0 : Int32)), es, rr, rc, om))))) 1 (fun f => rfl) ?_
        refine zW_eq zu_75 ?_
        refine zW_gh 279 [some (.ref 75), some (.int (Int32.ofNat x1)), none, none, none, some (.int x5), some (.int x6), some (.int (Int32.ofNat x7))] [.int x6] 1 (fun f => rfl) ?_
        exact zW_rh (some (.int x6)) 1 (fun f => rfl) H
      · have c9 : fin = true := ((Bool.not_eq_false' _).mp ((zcB_eq _).symm.trans c))
        replace H := H.2 c9
        refine zW_gh 274 [some (.ref 75), some (.int (Int32.ofNat x1)), none, none, none, some (.int x5), some (.int x6), some (.int (Int32.ofNat x7))] [.int (ef + x5), .ref 75] 3 (fun f => rfl) ?_
        refine zW_go (pc' := 277) (L' := [some (.ref 75), some (.int (Int32.ofNat x1)), none, none, none, some (.int x5), some (.int x6), some (.int (Int32.ofNat x7))]) (st' := []) (h' := (va_up (zh K (code, rf, rs, bad, pr, pn, len, plc, fin, ef, es, rr, rc, om) (m, pa, pb, pc, vf, vs, tx, rd, ou) w) 75 (.inr (7, zfl (code, rf, rs, bad, pr, pn, len, plc, fin, (ef + x5), es, rr, rc, om))))) 1 (fun f => rfl) ?_
        refine zW_eq zu_75 ?_
        refine zW_gh 279 [some (.ref 75), some (.int (Int32.ofNat x1)), none, none, none, some (.int x5), some (.int x6), some (.int (Int32.ofNat x7))] [.int x6] 1 (fun f => rfl) ?_
        exact zW_rh (some (.int x6)) 1 (fun f => rfl) H
    · have c9 : fin = true := ((Bool.not_eq_false' _).mp ((zcB_eq _).symm.trans c))
      replace H := H.2 c9
      refine zW_gh 249 [some (.ref 75), some (.int (Int32.ofNat x1)), none, none, none, some (.int (x5 * (Int32.ofNat x1))), some (.int x6), some (.int (Int32.ofNat x7))] [] 4 (fun f => rfl) ?_
      refine zW_inc [some (.ref 75), some (.int (Int32.ofNat x1)), none, none, none, some (.int (x5 * (Int32.ofNat x1))), some (.int x6), some (.int ((Int32.ofNat x7) + (1 : Int32)))] rfl rfl rfl ?_
      rw [show ((Int32.ofNat x7) + (1 : Int32)) = Int32.ofNat (x7 + 1) from (zN_a rfl rfl)]
      refine zW_gh 229 [some (.ref 75), some (.int (Int32.ofNat x1)), none, none, none, some (.int (x5 * (Int32.ofNat x1))), some (.int x6), some (.int (Int32.ofNat (x7 + 1)))] [] 1 (fun f => rfl) ?_
      exact H
theorem b237 {K : zKt} {code rf rs pr pn ef es : Int32} {bad fin : Bool} {len plc rr rc om : Nat} {m pa pb pc vf vs tx rd ou : Nat → Int32} {w : Nat → Int64} {p : Nat × Nat} {Q : zR → zH → Prop} {a0 : Int32} (H : zW zm_237 15 [some (.ref 75), some (.int a0), some (.int (8 : Int32)), some (.int (1 : Int32))] [] p (zh K (code, rf, rs, bad, pr, pn, len, plc, fin, (0 : Int32), (0 : Int32), rr, rc, om) (m, pa, pb, pc, vf, vs, tx, rd, ou) w) Q) : zT zm_237 [.ref 75, .int a0] p (zh K (code, rf, rs, bad, pr, pn, len, plc, fin, ef, es, rr, rc, om) (m, pa, pb, pc, vf, vs, tx, rd, ou) w) Q := by
  change zW zm_237 0 [some (.ref 75), some (.int a0), none, none] [] p _ Q
  refine zW_gh 7 [some (.ref 75), some (.int a0), some (.int (8 : Int32)), some (.int (1 : Int32))] [.int (0 : Int32), .ref 75] 6 (fun f => rfl) ?_
  refine zW_go (pc' := 10) (L' := [some (.ref 75), some (.int a0), some (.int (8 : Int32)), some (.int (1 : Int32))]) (st' := []) (h' := (va_up (zh K (code, rf, rs, bad, pr, pn, len, plc, fin, ef, es, rr, rc, om) (m, pa, pb, pc, vf, vs, tx, rd, ou) w) 75 (.inr (7, zfl (code, rf, rs, bad, pr, pn, len, plc, fin, (0 : Int32), es, rr, rc, om))))) 1 (fun f => rfl) ?_
  refine zW_eq zu_75 ?_
  refine zW_gh 12 [some (.ref 75), some (.int a0), some (.int (8 : Int32)), some (.int (1 : Int32))] [.int (0 : Int32), .ref 75] 2 (fun f => rfl) ?_
  refine zW_go (pc' := 15) (L' := [some (.ref 75), some (.int a0), some (.int (8 : Int32)), some (.int (1 : Int32))]) (st' := []) (h' := (va_up (zh K (code, rf, rs, bad, pr, pn, len, plc, fin, (0 : Int32), es, rr, rc, om) (m, pa, pb, pc, vf, vs, tx, rd, ou) w) 75 (.inr (7, zfl (code, rf, rs, bad, pr, pn, len, plc, fin, (0 : Int32), (0 : Int32), rr, rc, om))))) 1 (fun f => rfl) ?_
  refine zW_eq zu_75 ?_
  exact H
theorem b237_15 {K : zKt} {code rf rs pr pn ef es : Int32} {bad fin : Bool} {len plc rr rc om : Nat} {m pa pb pc vf vs tx rd ou : Nat → Int32} {w : Nat → Int64} {p : Nat × Nat} {Q : zR → zH → Prop} {x1 x2 : Int32} {x3 : Bool} (H : ((x3 = false → Q (.inl none) (zh K (code, rf, rs, bad, pr, pn, len, plc, fin, ef, es, rr, rc, om) (m, pa, pb, pc, vf, vs, tx, rd, ou) w)) ∧ (x3 = true → ((fin = false → Q (.inl none) (zh K (code, rf, rs, bad, pr, pn, len, plc, fin, ef, es, rr, rc, om) (m, pa, pb, pc, vf, vs, tx, rd, ou) w)) ∧ (fin = true → zT zm_238 [.ref 75, .int x1, .int x2] p (zh K (code, rf, rs, bad, pr, pn, len, plc, fin, ef, es, rr, rc, om) (m, pa, pb, pc, vf, vs, tx, rd, ou) w) (zK zm_237 32 [some (.ref 75), some (.int x1), none, none] [] p Q)))))) : zW zm_237 15 [some (.ref 75), some (.int x1), some (.int x2), some (.int (zbi x3))] [] p (zh K (code, rf, rs, bad, pr, pn, len, plc, fin, ef, es, rr, rc, om) (m, pa, pb, pc, vf, vs, tx, rd, ou) w) Q := by
  refine zW_bh (zcmp .eq (zbi x3) (0 : Int32)) 76 19 [some (.ref 75), some (.int x1), some (.int x2), some (.int (zbi x3))] [] 2 (fun f => rfl) (fun c => ?_) (fun c => ?_)
  · have c9 : x3 = false := ((Bool.not_eq_true' _).mp ((zcB_eq _).symm.trans c))
    replace H := H.1 c9
    exact zW_rh none 1 (fun f => rfl) H
  · have c9 : x3 = true := ((Bool.not_eq_false' _).mp ((zcB_eq _).symm.trans c))
    replace H := H.2 c9
    refine zW_bh (zcmp .eq (zbi fin) (0 : Int32)) 76 26 [some (.ref 75), some (.int x1), some (.int x2), some (.int (zbi x3))] [] 3 (fun f => rfl) (fun c => ?_) (fun c => ?_)
    · have c9 : fin = false := ((Bool.not_eq_true' _).mp ((zcB_eq _).symm.trans c))
      replace H := H.1 c9
      exact zW_rh none 1 (fun f => rfl) H
    · have c9 : fin = true := ((Bool.not_eq_false' _).mp ((zcB_eq _).symm.trans c))
      replace H := H.2 c9
      refine zW_gh 29 [some (.ref 75), some (.int x1), some (.int x2), some (.int (zbi x3))] [.int x2, .int x1, .ref 75] 3 (fun f => rfl) ?_
      refine zW_fg (L' := [some (.ref 75), some (.int x1), none, none]) (zle_s _ (zle_s _ (zle_n _ (zle_n _ zle_nil)))) ?_
      exact zW_cl rfl rfl rfl rfl rfl H
theorem b237_32 {K : zKt} {code rf rs pr pn ef es : Int32} {bad fin : Bool} {len plc rr rc om : Nat} {m pa pb pc vf vs tx rd ou : Nat → Int32} {w : Nat → Int64} {p : Nat × Nat} {Q : zR → zH → Prop} {x1 rv : Int32} (H : ((fin = false → zW zm_237 15 [some (.ref 75), some (.int x1), some (.int rv), some (.int (0 : Int32))] [] p (zh K (code, rf, rs, bad, pr, pn, len, (plc + 0), fin, ef, es, rr, rc, om) (m, pa, pb, pc, vf, vs, tx, rd, ou) w) Q) ∧ (fin = true → (len ≤ 120 ∧ (plc < 2147483648 ∧ (((zhere tx len plc (43 : Int32)) = false → zW zm_237 15 [some (.ref 75), some (.int x1), some (.int rv), some (.int (0 : Int32))] [] p (zh K (code, rf, rs, bad, pr, pn, len, (plc + 0), fin, ef, es, rr, rc, om) (m, pa, pb, pc, vf, vs, tx, rd, ou) w) Q) ∧ ((zhere tx len plc (43 : Int32)) = true → zW zm_237 15 [some (.ref 75), some (.int x1), some (.int rv), some (.int (1 : Int32))] [] p (zh K (code, rf, rs, bad, pr, pn, len, (plc + 1), fin, ef, es, rr, rc, om) (m, pa, pb, pc, vf, vs, tx, rd, ou) w) Q))))))) : zW zm_237 32 [some (.ref 75), some (.int x1), none, none] [.int rv] p (zh K (code, rf, rs, bad, pr, pn, len, plc, fin, ef, es, rr, rc, om) (m, pa, pb, pc, vf, vs, tx, rd, ou) w) Q := by
  refine zW_bh (zcmp .eq (zbi fin) (0 : Int32)) 53 40 [some (.ref 75), some (.int x1), some (.int rv), none] [] 4 (fun f => rfl) (fun c => ?_) (fun c => ?_)
  · have c9 : fin = false := ((Bool.not_eq_true' _).mp ((zcB_eq _).symm.trans c))
    replace H := H.1 c9
    refine zW_gh 70 [some (.ref 75), some (.int x1), some (.int rv), some (.int (0 : Int32))] [.int ((Int32.ofNat plc) + (0 : Int32)), .ref 75] 9 (fun f => rfl) ?_
    rw [show ((Int32.ofNat plc) + (0 : Int32)) = Int32.ofNat (plc + 0) from (zN_a rfl rfl)]
    refine zW_go (pc' := 73) (L' := [some (.ref 75), some (.int x1), some (.int rv), some (.int (0 : Int32))]) (st' := []) (h' := (va_up (zh K (code, rf, rs, bad, pr, pn, len, plc, fin, ef, es, rr, rc, om) (m, pa, pb, pc, vf, vs, tx, rd, ou) w) 75 (.inr (7, zfl (code, rf, rs, bad, pr, pn, len, (plc + 0), fin, ef, es, rr, rc, om))))) 1 (fun f => rfl) ?_
    refine zW_eq zu_75 ?_
    refine zW_gh 15 [some (.ref 75), some (.int x1), some (.int rv), some (.int (0 : Int32))] [] 1 (fun f => rfl) ?_
    exact H
  · have c9 : fin = true := ((Bool.not_eq_false' _).mp ((zcB_eq _).symm.trans c))
    replace H := H.2 c9
    refine zW_gh 43 [some (.ref 75), some (.int x1), some (.int rv), none] [.int (43 : Int32), .ref 75] 2 (fun f => rfl) ?_
    obtain ⟨h1, H⟩ := H
    obtain ⟨h2, H⟩ := H
    refine zW_cl rfl rfl rfl rfl rfl (s228 h1 h2 ?_)
    change zW zm_237 46 [some (.ref 75), some (.int x1), some (.int rv), none] [.int (zbi (zhere tx len plc (43 : Int32)))] p _ Q
    refine zW_bh (zcmp .eq (zbi (zhere tx len plc (43 : Int32))) (0 : Int32)) 53 49 [some (.ref 75), some (.int x1), some (.int rv), none] [] 1 (fun f => rfl) (fun c => ?_) (fun c => ?_)
    · have c9 : (zhere tx len plc (43 : Int32)) = false := ((Bool.not_eq_true' _).mp ((zcB_eq _).symm.trans c))
      replace H := H.1 c9
      refine zW_gh 70 [some (.ref 75), some (.int x1), some (.int rv), some (.int (0 : Int32))] [.int ((Int32.ofNat plc) + (0 : Int32)), .ref 75] 9 (fun f => rfl) ?_
      rw [show ((Int32.ofNat plc) + (0 : Int32)) = Int32.ofNat (plc + 0) from (zN_a rfl rfl)]
      refine zW_go (pc' := 73) (L' := [some (.ref 75), some (.int x1), some (.int rv), some (.int (0 : Int32))]) (st' := []) (h' := (va_up (zh K (code, rf, rs, bad, pr, pn, len, plc, fin, ef, es, rr, rc, om) (m, pa, pb, pc, vf, vs, tx, rd, ou) w) 75 (.inr (7, zfl (code, rf, rs, bad, pr, pn, len, (plc + 0), fin, ef, es, rr, rc, om))))) 1 (fun f => rfl) ?_
      refine zW_eq zu_75 ?_
      refine zW_gh 15 [some (.ref 75), some (.int x1), some (.int rv), some (.int (0 : Int32))] [] 1 (fun f => rfl) ?_
      exact H
    · have c9 : (zhere tx len plc (43 : Int32)) = true := ((Bool.not_eq_false' _).mp ((zcB_eq _).symm.trans c))
      replace H := H.2 c9
      refine zW_gh 65 [some (.ref 75), some (.int x1), some (.int rv), some (.int (1 : Int32))] [.int (1 : Int32), .int (Int32.ofNat plc), .ref 75] 9 (fun f => rfl) ?_
      refine zW_gh 70 [some (.ref 75), some (.int x1), some (.int rv), some (.int (1 : Int32))] [.int ((Int32.ofNat plc) + (1 : Int32)), .ref 75] 2 (fun f => rfl) ?_
      rw [show ((Int32.ofNat plc) + (1 : Int32)) = Int32.ofNat (plc + 1) from (zN_a rfl rfl)]
      refine zW_go (pc' := 73) (L' := [some (.ref 75), some (.int x1), some (.int rv), some (.int (1 : Int32))]) (st' := []) (h' := (va_up (zh K (code, rf, rs, bad, pr, pn, len, plc, fin, ef, es, rr, rc, om) (m, pa, pb, pc, vf, vs, tx, rd, ou) w) 75 (.inr (7, zfl (code, rf, rs, bad, pr, pn, len, (plc + 1), fin, ef, es, rr, rc, om))))) 1 (fun f => rfl) ?_
      refine zW_eq zu_75 ?_
      refine zW_gh 15 [some (.ref 75), some (.int x1), some (.int rv), some (.int (1 : Int32))] [] 1 (fun f => rfl) ?_
      exact H
theorem b231 {K : zKt} {code rf rs pr pn ef es : Int32} {bad fin : Bool} {len plc rr rc om : Nat} {m pa pb pc vf vs tx rd ou : Nat → Int32} {w : Nat → Int64} {p : Nat × Nat} {Q : zR → zH → Prop} {a0 : Int32} (H : ((¬ a0 = (0 : Int32) → ((¬ a0 = (1 : Int32) → zT zm_237 [.ref 75, .int a0] p (zh K (code, rf, rs, bad, pr, pn, len, plc, fin, ef, es, rr, rc, om) (m, pa, pb, pc, vf, vs, tx, rd, ou) w) (zK zm_231 28 [none, none] [] p Q)) ∧ (a0 = (1 : Int32) → zT zm_236 [.ref 75] p (zh K (code, rf, rs, bad, pr, pn, len, plc, fin, ef, es, rr, rc, om) (m, pa, pb, pc, vf, vs, tx, rd, ou) w) (zK zm_231 20 [none, none] [] p Q)))) ∧ (a0 = (0 : Int32) → zT zm_232 [.ref 75] p (zh K (code, rf, rs, bad, pr, pn, len, plc, fin, ef, es, rr, rc, om) (m, pa, pb, pc, vf, vs, tx, rd, ou) w) (zK zm_231 8 [none, none] [] p Q)))) : zT zm_231 [.ref 75, .int a0] p (zh K (code, rf, rs, bad, pr, pn, len, plc, fin, ef, es, rr, rc, om) (m, pa, pb, pc, vf, vs, tx, rd, ou) w) Q := by
  change zW zm_231 0 [some (.ref 75), some (.int a0)] [] p _ Q
  refine zW_bh (zcmp .ne a0 (0 : Int32)) 11 4 [some (.ref 75), some (.int a0)] [] 2 (fun f => rfl) (fun c => ?_) (fun c => ?_)
  · have c9 : ¬ a0 = (0 : Int32) := (by simpa [zcmp] using c)
    replace H := H.1 c9
    refine zW_bh (zcmp .ne a0 (1 : Int32)) 23 16 [some (.ref 75), some (.int a0)] [] 3 (fun f => rfl) (fun c => ?_) (fun c => ?_)
    · have c9 : ¬ a0 = (1 : Int32) := (by simpa [zcmp] using c)
      replace H := H.1 c9
      refine zW_gh 25 [some (.ref 75), some (.int a0)] [.int a0, .ref 75] 2 (fun f => rfl) ?_
      refine zW_fg (L' := [none, none]) (zle_n _ (zle_n _ zle_nil)) ?_
      exact zW_cl rfl rfl rfl rfl rfl H
    · have c9 : a0 = (1 : Int32) := (by simpa [zcmp] using c)
      replace H := H.2 c9
      refine zW_gh 17 [some (.ref 75), some (.int a0)] [.ref 75] 1 (fun f => rfl) ?_
      refine zW_fg (L' := [none, none]) (zle_n _ (zle_n _ zle_nil)) ?_
      exact zW_cl rfl rfl rfl rfl rfl H
  · have c9 : a0 = (0 : Int32) := (by simpa [zcmp] using c)
    replace H := H.2 c9
    refine zW_gh 5 [some (.ref 75), some (.int a0)] [.ref 75] 1 (fun f => rfl) ?_
    refine zW_fg (L' := [none, none]) (zle_n _ (zle_n _ zle_nil)) ?_
    exact zW_cl rfl rfl rfl rfl rfl H
theorem b231_28 {K : zKt} {code rf rs pr pn ef es : Int32} {bad fin : Bool} {len plc rr rc om : Nat} {m pa pb pc vf vs tx rd ou : Nat → Int32} {w : Nat → Int64} {p : Nat × Nat} {Q : zR → zH → Prop} (H : Q (.inl none) (zh K (code, rf, rs, bad, pr, pn, len, plc, fin, ef, es, rr, rc, om) (m, pa, pb, pc, vf, vs, tx, rd, ou) w)) : zW zm_231 28 [none, none] [] p (zh K (code, rf, rs, bad, pr, pn, len, plc, fin, ef, es, rr, rc, om) (m, pa, pb, pc, vf, vs, tx, rd, ou) w) Q := by
  exact zW_rh none 1 (fun f => rfl) H
theorem b231_20 {K : zKt} {code rf rs pr pn ef es : Int32} {bad fin : Bool} {len plc rr rc om : Nat} {m pa pb pc vf vs tx rd ou : Nat → Int32} {w : Nat → Int64} {p : Nat × Nat} {Q : zR → zH → Prop} (H : Q (.inl none) (zh K (code, rf, rs, bad, pr, pn, len, plc, fin, ef, es, rr, rc, om) (m, pa, pb, pc, vf, vs, tx, rd, ou) w)) : zW zm_231 20 [none, none] [] p (zh K (code, rf, rs, bad, pr, pn, len, plc, fin, ef, es, rr, rc, om) (m, pa, pb, pc, vf, vs, tx, rd, ou) w) Q := by
  refine zW_gh 28 [none, none] [] 1 (fun f => rfl) ?_
  exact zW_rh none 1 (fun f => rfl) H
theorem b231_8 {K : zKt} {code rf rs pr pn ef es : Int32} {bad fin : Bool} {len plc rr rc om : Nat} {m pa pb pc vf vs tx rd ou : Nat → Int32} {w : Nat → Int64} {p : Nat × Nat} {Q : zR → zH → Prop} (H : Q (.inl none) (zh K (code, rf, rs, bad, pr, pn, len, plc, fin, ef, es, rr, rc, om) (m, pa, pb, pc, vf, vs, tx, rd, ou) w)) : zW zm_231 8 [none, none] [] p (zh K (code, rf, rs, bad, pr, pn, len, plc, fin, ef, es, rr, rc, om) (m, pa, pb, pc, vf, vs, tx, rd, ou) w) Q := by
  refine zW_gh 28 [none, none] [] 1 (fun f => rfl) ?_
  exact zW_rh none 1 (fun f => rfl) H
set_option maxRecDepth 20000 in
theorem b230 {K : zKt} {code rf rs pr pn ef es : Int32} {bad fin : Bool} {len plc rr rc om : Nat} {m pa pb pc vf vs tx rd ou : Nat → Int32} {w : Nat → Int64} {p : Nat × Nat} {Q : zR → zH → Prop} {a0 : Int32} (H : (rr < 2147483648 ∧ ((¬ rr = 0 → zW zm_230 21 [some (.ref 75), some (.int a0), some (.int (Int32.ofNat 0)), some (.int (Int32.ofNat 1)), some (.int (Int32.ofNat rc))] [] p (zh K (code, rf, rs, bad, pr, pn, len, plc, fin, ef, es, rr, rc, om) (m, pa, pb, pc, vf, vs, tx, rd, ou) w) Q) ∧ (rr = 0 → zW zm_230 21 [some (.ref 75), some (.int a0), some (.int (Int32.ofNat 0)), some (.int (Int32.ofNat 1)), some (.int (Int32.ofNat 4))] [] p (zh K (code, rf, rs, bad, pr, pn, len, plc, fin, ef, es, rr, rc, om) (m, pa, pb, pc, vf, vs, tx, rd, ou) w) Q)))) : zT zm_230 [.ref 75, .int a0] p (zh K (code, rf, rs, bad, pr, pn, len, plc, fin, ef, es, rr, rc, om) (m, pa, pb, pc, vf, vs, tx, rd, ou) w) Q := by
  change zW zm_230 0 [some (.ref 75), some (.int a0), none, none, none] [] p _ Q
  obtain ⟨h1, H⟩ := H
  refine zW_bh (zcmp .ne (Int32.ofNat rr) (0 : Int32)) 15 11 [some (.ref 75), some (.int a0), some (.int (0 : Int32)), some (.int (1 : Int32)), none] [] 7 (fun f => rfl) (fun c => ?_) (fun c => ?_)
  · have c9 : ¬ rr = 0 := (by have c := (zcN_ne (a := rr) (b := 0) rfl rfl h1 (by decide)).symm.trans c; simpa using c)
    replace H := H.1 c9
    refine zW_gh 21 [some (.ref 75), some (.int a0), some (.int (0 : Int32)), some (.int (1 : Int32)), some (.int (Int32.ofNat rc))] [] 3 (fun f => rfl) ?_
    exact H
  · have c9 : rr = 0 := (by have c := (zcN_ne (a := rr) (b := 0) rfl rfl h1 (by decide)).symm.trans c; simpa using c)
    replace H := H.2 c9
    refine zW_gh 21 [some (.ref 75), some (.int a0), some (.int (0 : Int32)), some (.int (1 : Int32)), some (.int (4 : Int32))] [] 3 (fun f => rfl) ?_
    exact H
set_option maxRecDepth 20000 in
theorem b230_21 {K : zKt} {code rf rs pr pn ef es : Int32} {bad fin : Bool} {len plc rr rc om : Nat} {m pa pb pc vf vs tx rd ou : Nat → Int32} {w : Nat → Int64} {p : Nat × Nat} {Q : zR → zH → Prop} {x2 x3 x4 : Nat} {x1 : Int32} (H : (x3 < 2147483648 ∧ ((x3 = 0 → zW zm_230 158 [some (.ref 75), none, some (.int (Int32.ofNat x2)), none, none] [] p (zh K (code, rf, rs, bad, pr, pn, len, plc, fin, ef, es, rr, rc, om) (m, pa, pb, pc, vf, vs, tx, rd, ou) w) Q) ∧ (¬ x3 = 0 → ((fin = false → zW zm_230 158 [some (.ref 75), none, some (.int (Int32.ofNat x2)), none, none] [] p (zh K (code, rf, rs, bad, pr, pn, len, plc, fin, ef, es, rr, rc, om) (m, pa, pb, pc, vf, vs, tx, rd, ou) w) Q) ∧ (fin = true → zT zm_231 [.ref 75, .int x1] p (zh K (code, rf, rs, bad, pr, pn, len, plc, fin, ef, es, rr, rc, om) (m, pa, pb, pc, vf, vs, tx, rd, ou) w) (zK zm_230 37 [some (.ref 75), some (.int x1), some (.int (Int32.ofNat x2)), none, some (.int (Int32.ofNat x4))] [] p Q))))))) : zW zm_230 21 [some (.ref 75), some (.int x1), some (.int (Int32.ofNat x2)), some (.int (Int32.ofNat x3)), some (.int (Int32.ofNat x4))] [] p (zh K (code, rf, rs, bad, pr, pn, len, plc, fin, ef, es, rr, rc, om) (m, pa, pb, pc, vf, vs, tx, rd, ou) w) Q := by
  obtain ⟨h1, H⟩ := H
  refine zW_bh (zcmp .eq (Int32.ofNat x3) (0 : Int32)) 158 25 [some (.ref 75), some (.int x1), some (.int (Int32.ofNat x2)), some (.int (Int32.ofNat x3)), some (.int (Int32.ofNat x4))] [] 2 (fun f => rfl) (fun c => ?_) (fun c => ?_)
  · have c9 : x3 = 0 := (of_decide_eq_true ((zcN_eq (a := x3) (b := 0) rfl rfl h1 (by decide)).symm.trans c))
    replace H := H.1 c9
    refine zW_fg (L' := [some (.ref 75), none, some (.int (Int32.ofNat x2)), none, none]) (zle_s _ (zle_n _ (zle_s _ (zle_n _ (zle_n _ zle_nil))))) ?_
    exact H
  · have c9 : ¬ x3 = 0 := (of_decide_eq_false ((zcN_eq (a := x3) (b := 0) rfl rfl h1 (by decide)).symm.trans c))
    replace H := H.2 c9
    refine zW_bh (zcmp .eq (zbi fin) (0 : Int32)) 158 32 [some (.ref 75), some (.int x1), some (.int (Int32.ofNat x2)), some (.int (Int32.ofNat x3)), some (.int (Int32.ofNat x4))] [] 3 (fun f => rfl) (fun c => ?_) (fun c => ?_)
    · have c9 : fin = false := ((Bool.not_eq_true' _).mp ((zcB_eq _).symm.trans c))
      replace H := H.1 c9
      refine zW_fg (L' := [some (.ref 75), none, some (.int (Int32.ofNat x2)), none, none]) (zle_s _ (zle_n _ (zle_s _ (zle_n _ (zle_n _ zle_nil))))) ?_
      exact H
    · have c9 : fin = true := ((Bool.not_eq_false' _).mp ((zcB_eq _).symm.trans c))
      replace H := H.2 c9
      refine zW_gh 34 [some (.ref 75), some (.int x1), some (.int (Int32.ofNat x2)), some (.int (Int32.ofNat x3)), some (.int (Int32.ofNat x4))] [.int x1, .ref 75] 2 (fun f => rfl) ?_
      refine zW_fg (L' := [some (.ref 75), some (.int x1), some (.int (Int32.ofNat x2)), none, some (.int (Int32.ofNat x4))]) (zle_s _ (zle_s _ (zle_s _ (zle_n _ (zle_s _ zle_nil))))) ?_
      exact zW_cl rfl rfl rfl rfl rfl H
set_option maxRecDepth 20000 in
theorem b230_158 {K : zKt} {code rf rs pr pn ef es : Int32} {bad fin : Bool} {len plc rr rc om : Nat} {m pa pb pc vf vs tx rd ou : Nat → Int32} {w : Nat → Int64} {p : Nat × Nat} {Q : zR → zH → Prop} {x2 : Nat} (H : (rr < 2147483648 ∧ ((¬ rr = 0 → (x2 < 2147483648 ∧ (rc < 2147483648 ∧ ((¬ x2 = rc → Q (.inl none) (zh K (code, rf, rs, bad, pr, pn, len, plc, (fin && false), ef, es, (rr + 1), rc, om) (m, pa, pb, pc, vf, vs, tx, rd, ou) w)) ∧ (x2 = rc → Q (.inl none) (zh K (code, rf, rs, bad, pr, pn, len, plc, (fin && true), ef, es, (rr + 1), rc, om) (m, pa, pb, pc, vf, vs, tx, rd, ou) w)))))) ∧ (rr = 0 → (x2 < 2147483648 ∧ ((¬ x2 = x2 → Q (.inl none) (zh K (code, rf, rs, bad, pr, pn, len, plc, (fin && false), ef, es, (rr + 1), x2, om) (m, pa, pb, pc, vf, vs, tx, rd, ou) w)) ∧ (x2 = x2 → Q (.inl none) (zh K (code, rf, rs, bad, pr, pn, len, plc, (fin && true), ef, es, (rr + 1), x2, om) (m, pa, pb, pc, vf, vs, tx, rd, ou) w)))))))) : zW zm_230 158 [some (.ref 75), none, some (.int (Int32.ofNat x2)), none, none] [] p (zh K (code, rf, rs, bad, pr, pn, len, plc, fin, ef, es, rr, rc, om) (m, pa, pb, pc, vf, vs, tx, rd, ou) w) Q := by
  obtain ⟨h1, H⟩ := H
  refine zW_bh (zcmp .ne (Int32.ofNat rr) (0 : Int32)) 170 166 [some (.ref 75), none, some (.int (Int32.ofNat x2)), none, none] [.ref 75] 4 (fun f => rfl) (fun c => ?_) (fun c => ?_)
  · have c9 : ¬ rr = 0 := (by have c := (zcN_ne (a := rr) (b := 0) rfl rfl h1 (by decide)).symm.trans c; simpa using c)
    replace H := H.1 c9
    refine zW_gh 174 [some (.ref 75), none, some (.int (Int32.ofNat x2)), none, none] [.int (Int32.ofNat rc), .ref 75] 2 (fun f => rfl) ?_
    refine zW_go (pc' := 177) (L' := [some (.ref 75), none, some (.int (Int32.ofNat x2)), none, none]) (st' := []) (h' := (va_up (zh K (code, rf, rs, bad, pr, pn, len, plc, fin, ef, es, rr, rc, om) (m, pa, pb, pc, vf, vs, tx, rd, ou) w) 75 (.inr (7, zfl (code, rf, rs, bad, pr, pn, len, plc, fin, ef, es, rr, rc, om))))) 1 (fun f => rfl) ?_
    refine zW_eq zu_75 ?_
    obtain ⟨h2, H⟩ := H
    obtain ⟨h3, H⟩ := H
    refine zW_bh (zcmp .ne (Int32.ofNat x2) (Int32.ofNat rc)) 190 186 [some (.ref 75), none, some (.int (Int32.ofNat x2)), none, none] [.ref 75] 5 (fun f => rfl) (fun c => ?_) (fun c => ?_)
    · have c9 : ¬ x2 = rc := (by have c := (zcN_ne (a := x2) (b := rc) rfl rfl h2 h3).symm.trans c; simpa using c)
      replace H := H.1 c9
      refine zW_gh 191 [some (.ref 75), none, some (.int (Int32.ofNat x2)), none, none] [.int (0 : Int32), .ref 75] 1 (fun f => rfl) ?_
      refine zW_cl rfl rfl rfl rfl rfl ((s229 (b := false)) ?_)
      change zW zm_230 194 [some (.ref 75), none, some (.int (Int32.ofNat x2)), none, none] [] p _ Q
      refine zW_gh 201 [some (.ref 75), none, some (.int (Int32.ofNat x2)), none, none] [.int ((Int32.ofNat rr) + (1 : Int32)), .ref 75] 5 (fun f => rfl) ?_
      rw [show ((Int32.ofNat rr) + (1 : Int32)) = Int32.ofNat (rr + 1) from (zN_a rfl rfl)]
      refine zW_go (pc' := 204) (L' := [some (.ref 75), none, some (.int (Int32.ofNat x2)), none, none]) (st' := []) (h' := (va_up (zh K (code, rf, rs, bad, pr, pn, len, plc, (fin && false), ef, es, rr, rc, om) (m, pa, pb, pc, vf, vs, tx, rd, ou) w) 75 (.inr (7, zfl (code, rf, rs, bad, pr, pn, len, plc, (fin && false), ef, es, (rr + 1), rc, om))))) 1 (fun f => rfl) ?_
      refine zW_eq zu_75 ?_
      exact zW_rh none 1 (fun f => rfl) H
    · have c9 : x2 = rc := (by have c := (zcN_ne (a := x2) (b := rc) rfl rfl h2 h3).symm.trans c; simpa using c)
      replace H := H.2 c9
      refine zW_gh 191 [some (.ref 75), none, some (.int (Int32.ofNat x2)), none, none] [.int (1 : Int32), .ref 75] 2 (fun f => rfl) ?_
      refine zW_cl rfl rfl rfl rfl rfl ((s229 (b := true)) ?_)
      change zW zm_230 194 [some (.ref 75), none, some (.int (Int32.ofNat x2)), none, none] [] p _ Q
      refine zW_gh 201 [some (.ref 75), none, some (.int (Int32.ofNat x2)), none, none] [.int ((Int32.ofNat rr) + (1 : Int32)), .ref 75] 5 (fun f => rfl) ?_
      rw [show ((Int32.ofNat rr) + (1 : Int32)) = Int32.ofNat (rr + 1) from (zN_a rfl rfl)]
      refine zW_go (pc' := 204) (L' := [some (.ref 75), none, some (.int (Int32.ofNat x2)), none, none]) (st' := []) (h' := (va_up (zh K (code, rf, rs, bad, pr, pn, len, plc, (fin && true), ef, es, rr, rc, om) (m, pa, pb, pc, vf, vs, tx, rd, ou) w) 75 (.inr (7, zfl (code, rf, rs, bad, pr, pn, len, plc, (fin && true), ef, es, (rr + 1), rc, om))))) 1 (fun f => rfl) ?_
      refine zW_eq zu_75 ?_
      exact zW_rh none 1 (fun f => rfl) H
  · have c9 : rr = 0 := (by have c := (zcN_ne (a := rr) (b := 0) rfl rfl h1 (by decide)).symm.trans c; simpa using c)
    replace H := H.2 c9
    refine zW_gh 174 [some (.ref 75), none, some (.int (Int32.ofNat x2)), none, none] [.int (Int32.ofNat x2), .ref 75] 2 (fun f => rfl) ?_
    refine zW_go (pc' := 177) (L' := [some (.ref 75), none, some (.int (Int32.ofNat x2)), none, none]) (st' := []) (h' := (va_up (zh K (code, rf, rs, bad, pr, pn, len, plc, fin, ef, es, rr, rc, om) (m, pa, pb, pc, vf, vs, tx, rd, ou) w) 75 (.inr (7, zfl (code, rf, rs, bad, pr, pn, len, plc, fin, ef, es, rr, x2, om))))) 1 (fun f => rfl) ?_
    refine zW_eq zu_75 ?_
    obtain ⟨h4, H⟩ := H
    refine zW_bh (zcmp .ne (Int32.ofNat x2) (Int32.ofNat x2)) 190 186 [some (.ref 75), none, some (.int (Int32.ofNat x2)), none, none] [.ref 75] 5 (fun f => rfl) (fun c => ?_) (fun c => ?_)
    · have c9 : ¬ x2 = x2 := (by have c := (zcN_ne (a := x2) (b := x2) rfl rfl h4 h4).symm.trans c; simpa using c)
      replace H := H.1 c9
      refine zW_gh 191 [some (.ref 75), none, some (.int (Int32.ofNat x2)), none, none] [.int (0 : Int32), .ref 75] 1 (fun f => rfl) ?_
      refine zW_cl rfl rfl rfl rfl rfl ((s229 (b := false)) ?_)
      change zW zm_230 194 [some (.ref 75), none, some (.int (Int32.ofNat x2)), none, none] [] p _ Q
      refine zW_gh 201 [some (.ref 75), none, some (.int (Int32.ofNat x2)), none, none] [.int ((Int32.ofNat rr) + (1 : Int32)), .ref 75] 5 (fun f => rfl) ?_
      rw [show ((Int32.ofNat rr) + (1 : Int32)) = Int32.ofNat (rr + 1) from (zN_a rfl rfl)]
      refine zW_go (pc' := 204) (L' := [some (.ref 75), none, some (.int (Int32.ofNat x2)), none, none]) (st' := []) (h' := (va_up (zh K (code, rf, rs, bad, pr, pn, len, plc, (fin && false), ef, es, rr, x2, om) (m, pa, pb, pc, vf, vs, tx, rd, ou) w) 75 (.inr (7, zfl (code, rf, rs, bad, pr, pn, len, plc, (fin && false), ef, es, (rr + 1), x2, om))))) 1 (fun f => rfl) ?_
      refine zW_eq zu_75 ?_
      exact zW_rh none 1 (fun f => rfl) H
    · have c9 : x2 = x2 := (by have c := (zcN_ne (a := x2) (b := x2) rfl rfl h4 h4).symm.trans c; simpa using c)
      replace H := H.2 c9
      refine zW_gh 191 [some (.ref 75), none, some (.int (Int32.ofNat x2)), none, none] [.int (1 : Int32), .ref 75] 2 (fun f => rfl) ?_
      refine zW_cl rfl rfl rfl rfl rfl ((s229 (b := true)) ?_)
      change zW zm_230 194 [some (.ref 75), none, some (.int (Int32.ofNat x2)), none, none] [] p _ Q
      refine zW_gh 201 [some (.ref 75), none, some (.int (Int32.ofNat x2)), none, none] [.int ((Int32.ofNat rr) + (1 : Int32)), .ref 75] 5 (fun f => rfl) ?_
      rw [show ((Int32.ofNat rr) + (1 : Int32)) = Int32.ofNat (rr + 1) from (zN_a rfl rfl)]
      refine zW_go (pc' := 204) (L' := [some (.ref 75), none, some (.int (Int32.ofNat x2)), none, none]) (st' := []) (h' := (va_up (zh K (code, rf, rs, bad, pr, pn, len, plc, (fin && true), ef, es, rr, x2, om) (m, pa, pb, pc, vf, vs, tx, rd, ou) w) 75 (.inr (7, zfl (code, rf, rs, bad, pr, pn, len, plc, (fin && true), ef, es, (rr + 1), x2, om))))) 1 (fun f => rfl) ?_
      refine zW_eq zu_75 ?_
      exact zW_rh none 1 (fun f => rfl) H
set_option maxRecDepth 20000 in
theorem b230_37 {K : zKt} {code rf rs pr pn ef es : Int32} {bad fin : Bool} {len plc rr rc om : Nat} {m pa pb pc vf vs tx rd ou : Nat → Int32} {w : Nat → Int64} {p : Nat × Nat} {Q : zR → zH → Prop} {x2 x4 : Nat} {x1 : Int32} (H : ((fin = false → ((fin = false → zW zm_230 110 [some (.ref 75), some (.int x1), some (.int (Int32.ofNat x2)), none, some (.int (Int32.ofNat x4))] [.int (Int32.ofNat 0)] p (zh K (code, rf, rs, bad, pr, pn, len, plc, fin, ef, es, rr, rc, om) (m, pa, pb, pc, vf, vs, tx, rd, ou) w) Q) ∧ (fin = true → (len ≤ 120 ∧ (plc < 2147483648 ∧ (((zhere tx len plc (44 : Int32)) = false → zW zm_230 110 [some (.ref 75), some (.int x1), some (.int (Int32.ofNat x2)), none, some (.int (Int32.ofNat x4))] [.int (Int32.ofNat 0)] p (zh K (code, rf, rs, bad, pr, pn, len, plc, fin, ef, es, rr, rc, om) (m, pa, pb, pc, vf, vs, tx, rd, ou) w) Q) ∧ ((zhere tx len plc (44 : Int32)) = true → zW zm_230 110 [some (.ref 75), some (.int x1), some (.int (Int32.ofNat x2)), none, some (.int (Int32.ofNat x4))] [.int (Int32.ofNat 1)] p (zh K (code, rf, rs, bad, pr, pn, len, plc, fin, ef, es, rr, rc, om) (m, pa, pb, pc, vf, vs, tx, rd, ou) w) Q))))))) ∧ (fin = true → (((8 * rr) + (2 * x2)) < 32 ∧ ((((8 * rr) + (2 * x2)) + 1) < 32 ∧ ((fin = false → zW zm_230 110 [some (.ref 75), some (.int x1), some (.int (Int32.ofNat (x2 + 1))), none, some (.int (Int32.ofNat x4))] [.int (Int32.ofNat 0)] p (zh K (code, rf, rs, bad, pr, pn, len, plc, fin, ef, es, rr, rc, om) (m, pa, pb, pc, vf, vs, tx, (va_up (va_up rd ((8 * rr) + (2 * x2)) ef) (((8 * rr) + (2 * x2)) + 1) es), ou) w) Q) ∧ (fin = true → (len ≤ 120 ∧ (plc < 2147483648 ∧ (((zhere tx len plc (44 : Int32)) = false → zW zm_230 110 [some (.ref 75), some (.int x1), some (.int (Int32.ofNat (x2 + 1))), none, some (.int (Int32.ofNat x4))] [.int (Int32.ofNat 0)] p (zh K (code, rf, rs, bad, pr, pn, len, plc, fin, ef, es, rr, rc, om) (m, pa, pb, pc, vf, vs, tx, (va_up (va_up rd ((8 * rr) + (2 * x2)) ef) (((8 * rr) + (2 * x2)) + 1) es), ou) w) Q) ∧ ((zhere tx len plc (44 : Int32)) = true → zW zm_230 110 [some (.ref 75), some (.int x1), some (.int (Int32.ofNat (x2 + 1))), none, some (.int (Int32.ofNat x4))] [.int (Int32.ofNat 1)] p (zh K (code, rf, rs, bad, pr, pn, len, plc, fin, ef, es, rr, rc, om) (m, pa, pb, pc, vf, vs, tx, (va_up (va_up rd ((8 * rr) + (2 * x2)) ef) (((8 * rr) + (2 * x2)) + 1) es), ou) w) Q))))))))))) : zW zm_230 37 [some (.ref 75), some (.int x1), some (.int (Int32.ofNat x2)), none, some (.int (Int32.ofNat x4))] [] p (zh K (code, rf, rs, bad, pr, pn, len, plc, fin, ef, es, rr, rc, om) (m, pa, pb, pc, vf, vs, tx, rd, ou) w) Q := by
  refine zW_bh (zcmp .eq (zbi fin) (0 : Int32)) 89 44 [some (.ref 75), some (.int x1), some (.int (Int32.ofNat x2)), none, some (.int (Int32.ofNat x4))] [] 3 (fun f => rfl) (fun c => ?_) (fun c => ?_)
  · have c9 : fin = false := ((Bool.not_eq_true' _).mp ((zcB_eq _).symm.trans c))
    replace H := H.1 c9
    refine zW_bh (zcmp .eq (zbi fin) (0 : Int32)) 109 96 [some (.ref 75), some (.int x1), some (.int (Int32.ofNat x2)), none, some (.int (Int32.ofNat x4))] [] 3 (fun f => rfl) (fun c => ?_) (fun c => ?_)
    · have c9 : fin = false := ((Bool.not_eq_true' _).mp ((zcB_eq _).symm.trans c))
      replace H := H.1 c9
      refine zW_gh 110 [some (.ref 75), some (.int x1), some (.int (Int32.ofNat x2)), none, some (.int (Int32.ofNat x4))] [.int (0 : Int32)] 1 (fun f => rfl) ?_
      exact H
    · have c9 : fin = true := ((Bool.not_eq_false' _).mp ((zcB_eq _).symm.trans c))
      replace H := H.2 c9
      refine zW_gh 99 [some (.ref 75), some (.int x1), some (.int (Int32.ofNat x2)), none, some (.int (Int32.ofNat x4))] [.int (44 : Int32), .ref 75] 2 (fun f => rfl) ?_
      obtain ⟨h1, H⟩ := H
      obtain ⟨h2, H⟩ := H
      refine zW_cl rfl rfl rfl rfl rfl (s228 h1 h2 ?_)
      change zW zm_230 102 [some (.ref 75), some (.int x1), some (.int (Int32.ofNat x2)), none, some (.int (Int32.ofNat x4))] [.int (zbi (zhere tx len plc (44 : Int32)))] p _ Q
      refine zW_bh (zcmp .eq (zbi (zhere tx len plc (44 : Int32))) (0 : Int32)) 109 105 [some (.ref 75), some (.int x1), some (.int (Int32.ofNat x2)), none, some (.int (Int32.ofNat x4))] [] 1 (fun f => rfl) (fun c => ?_) (fun c => ?_)
      · have c9 : (zhere tx len plc (44 : Int32)) = false := ((Bool.not_eq_true' _).mp ((zcB_eq _).symm.trans c))
        replace H := H.1 c9
        refine zW_gh 110 [some (.ref 75), some (.int x1), some (.int (Int32.ofNat x2)), none, some (.int (Int32.ofNat x4))] [.int (0 : Int32)] 1 (fun f => rfl) ?_
        exact H
      · have c9 : (zhere tx len plc (44 : Int32)) = true := ((Bool.not_eq_false' _).mp ((zcB_eq _).symm.trans c))
        replace H := H.2 c9
        refine zW_gh 110 [some (.ref 75), some (.int x1), some (.int (Int32.ofNat x2)), none, some (.int (Int32.ofNat x4))] [.int (1 : Int32)] 2 (fun f => rfl) ?_
        exact H
  · have c9 : fin = true := ((Bool.not_eq_false' _).mp ((zcB_eq _).symm.trans c))
    replace H := H.2 c9
    refine zW_gh 58 [some (.ref 75), some (.int x1), some (.int (Int32.ofNat x2)), none, some (.int (Int32.ofNat x4))] [.int ((2 : Int32) * (Int32.ofNat x2)), .int ((8 : Int32) * (Int32.ofNat rr)), .ref 83] 9 (fun f => rfl) ?_
    refine zW_gh 63 [some (.ref 75), some (.int x1), some (.int (Int32.ofNat x2)), none, some (.int (Int32.ofNat x4))] [.int ef, .int (((8 : Int32) * (Int32.ofNat rr)) + ((2 : Int32) * (Int32.ofNat x2))), .ref 83] 3 (fun f => rfl) ?_
    obtain ⟨h3, H⟩ := H
    refine zW_iast rfl (by decide) rfl (by decide) zu_83 (zN_a (zN_m rfl rfl) (zN_m rfl rfl)) h3 ?_
    refine zW_gh 78 [some (.ref 75), some (.int x1), some (.int (Int32.ofNat x2)), none, some (.int (Int32.ofNat x4))] [.int ((2 : Int32) * (Int32.ofNat x2)), .int ((8 : Int32) * (Int32.ofNat rr)), .ref 83] 9 (fun f => rfl) ?_
    refine zW_gh 85 [some (.ref 75), some (.int x1), some (.int (Int32.ofNat x2)), none, some (.int (Int32.ofNat x4))] [.int es, .int ((((8 : Int32) * (Int32.ofNat rr)) + ((2 : Int32) * (Int32.ofNat x2))) + (1 : Int32)), .ref 83] 5 (fun f => rfl) ?_
    obtain ⟨h4, H⟩ := H
    refine zW_iast rfl (by decide) rfl (by decide) zu_83 (zN_a (zN_a (zN_m rfl rfl) (zN_m rfl rfl)) rfl) h4 ?_
    refine zW_inc [some (.ref 75), some (.int x1), some (.int ((Int32.ofNat x2) + (1 : Int32))), none, some (.int (Int32.ofNat x4))] rfl rfl rfl ?_
    rw [show ((Int32.ofNat x2) + (1 : Int32)) = Int32.ofNat (x2 + 1) from (zN_a rfl rfl)]
    refine zW_bh (zcmp .eq (zbi fin) (0 : Int32)) 109 96 [some (.ref 75), some (.int x1), some (.int (Int32.ofNat (x2 + 1))), none, some (.int (Int32.ofNat x4))] [] 3 (fun f => rfl) (fun c => ?_) (fun c => ?_)
    · have c9 : fin = false := ((Bool.not_eq_true' _).mp ((zcB_eq _).symm.trans c))
      replace H := H.1 c9
      refine zW_gh 110 [some (.ref 75), some (.int x1), some (.int (Int32.ofNat (x2 + 1))), none, some (.int (Int32.ofNat x4))] [.int (0 : Int32)] 1 (fun f => rfl) ?_
      exact H
    · have c9 : fin = true := ((Bool.not_eq_false' _).mp ((zcB_eq _).symm.trans c))
      replace H := H.2 c9
      refine zW_gh 99 [some (.ref 75), some (.int x1), some (.int (Int32.ofNat (x2 + 1))), none, some (.int (Int32.ofNat x4))] [.int (44 : Int32), .ref 75] 2 (fun f => rfl) ?_
      obtain ⟨h5, H⟩ := H
      obtain ⟨h6, H⟩ := H
      refine zW_cl rfl rfl rfl rfl rfl (s228 h5 h6 ?_)
      change zW zm_230 102 [some (.ref 75), some (.int x1), some (.int (Int32.ofNat (x2 + 1))), none, some (.int (Int32.ofNat x4))] [.int (zbi (zhere tx len plc (44 : Int32)))] p _ Q
      refine zW_bh (zcmp .eq (zbi (zhere tx len plc (44 : Int32))) (0 : Int32)) 109 105 [some (.ref 75), some (.int x1), some (.int (Int32.ofNat (x2 + 1))), none, some (.int (Int32.ofNat x4))] [] 1 (fun f => rfl) (fun c => ?_) (fun c => ?_)
      · have c9 : (zhere tx len plc (44 : Int32)) = false := ((Bool.not_eq_true' _).mp ((zcB_eq _).symm.trans c))
        replace H := H.1 c9
        refine zW_gh 110 [some (.ref 75), some (.int x1), some (.int (Int32.ofNat (x2 + 1))), none, some (.int (Int32.ofNat x4))] [.int (0 : Int32)] 1 (fun f => rfl) ?_
        exact H
      · have c9 : (zhere tx len plc (44 : Int32)) = true := ((Bool.not_eq_false' _).mp ((zcB_eq _).symm.trans c))
        replace H := H.2 c9
        refine zW_gh 110 [some (.ref 75), some (.int x1), some (.int (Int32.ofNat (x2 + 1))), none, some (.int (Int32.ofNat x4))] [.int (1 : Int32)] 2 (fun f => rfl) ?_
        exact H
set_option maxRecDepth 20000 in
theorem b230_110 {K : zKt} {code rf rs pr pn ef es : Int32} {bad fin : Bool} {len plc rr rc om : Nat} {m pa pb pc vf vs tx rd ou : Nat → Int32} {w : Nat → Int64} {p : Nat × Nat} {Q : zR → zH → Prop} {x2 x4 s0 : Nat} {x1 : Int32} (H : (s0 < 2147483648 ∧ ((s0 = 0 → ((s0 = 0 → zW zm_230 21 [some (.ref 75), some (.int x1), some (.int (Int32.ofNat x2)), some (.int (Int32.ofNat s0)), some (.int (Int32.ofNat x4))] [] p (zh K (code, rf, rs, bad, pr, pn, len, (plc + 0), (fin && true), ef, es, rr, rc, om) (m, pa, pb, pc, vf, vs, tx, rd, ou) w) Q) ∧ (¬ s0 = 0 → (((fin && true) = false → zW zm_230 21 [some (.ref 75), some (.int x1), some (.int (Int32.ofNat x2)), some (.int (Int32.ofNat s0)), some (.int (Int32.ofNat x4))] [] p (zh K (code, rf, rs, bad, pr, pn, len, (plc + 0), (fin && true), ef, es, rr, rc, om) (m, pa, pb, pc, vf, vs, tx, rd, ou) w) Q) ∧ ((fin && true) = true → zW zm_230 21 [some (.ref 75), some (.int x1), some (.int (Int32.ofNat x2)), some (.int (Int32.ofNat s0)), some (.int (Int32.ofNat x4))] [] p (zh K (code, rf, rs, bad, pr, pn, len, (plc + 1), (fin && true), ef, es, rr, rc, om) (m, pa, pb, pc, vf, vs, tx, rd, ou) w) Q))))) ∧ (¬ s0 = 0 → (x2 < 2147483648 ∧ (x4 < 2147483648 ∧ ((x4 ≤ x2 → ((s0 = 0 → zW zm_230 21 [some (.ref 75), some (.int x1), some (.int (Int32.ofNat x2)), some (.int (Int32.ofNat s0)), some (.int (Int32.ofNat x4))] [] p (zh K (code, rf, rs, bad, pr, pn, len, (plc + 0), (fin && false), ef, es, rr, rc, om) (m, pa, pb, pc, vf, vs, tx, rd, ou) w) Q) ∧ (¬ s0 = 0 → (((fin && false) = false → zW zm_230 21 [some (.ref 75), some (.int x1), some (.int (Int32.ofNat x2)), some (.int (Int32.ofNat s0)), some (.int (Int32.ofNat x4))] [] p (zh K (code, rf, rs, bad, pr, pn, len, (plc + 0), (fin && false), ef, es, rr, rc, om) (m, pa, pb, pc, vf, vs, tx, rd, ou) w) Q) ∧ ((fin && false) = true → zW zm_230 21 [some (.ref 75), some (.int x1), some (.int (Int32.ofNat x2)), some (.int (Int32.ofNat s0)), some (.int (Int32.ofNat x4))] [] p (zh K (code, rf, rs, bad, pr, pn, len, (plc + 1), (fin && false), ef, es, rr, rc, om) (m, pa, pb, pc, vf, vs, tx, rd, ou) w) Q))))) ∧ (x2 < x4 → ((s0 = 0 → zW zm_230 21 [some (.ref 75), some (.int x1), some (.int (Int32.ofNat x2)), some (.int (Int32.ofNat s0)), some (.int (Int32.ofNat x4))] [] p (zh K (code, rf, rs, bad, pr, pn, len, (plc + 0), (fin && true), ef, es, rr, rc, om) (m, pa, pb, pc, vf, vs, tx, rd, ou) w) Q) ∧ (¬ s0 = 0 → (((fin && true) = false → zW zm_230 21 [some (.ref 75), some (.int x1), some (.int (Int32.ofNat x2)), some (.int (Int32.ofNat s0)), some (.int (Int32.ofNat x4))] [] p (zh K (code, rf, rs, bad, pr, pn, len, (plc + 0), (fin && true), ef, es, rr, rc, om) (m, pa, pb, pc, vf, vs, tx, rd, ou) w) Q) ∧ ((fin && true) = true → zW zm_230 21 [some (.ref 75), some (.int x1), some (.int (Int32.ofNat x2)), some (.int (Int32.ofNat s0)), some (.int (Int32.ofNat x4))] [] p (zh K (code, rf, rs, bad, pr, pn, len, (plc + 1), (fin && true), ef, es, rr, rc, om) (m, pa, pb, pc, vf, vs, tx, rd, ou) w) Q)))))))))))) : zW zm_230 110 [some (.ref 75), some (.int x1), some (.int (Int32.ofNat x2)), none, some (.int (Int32.ofNat x4))] [.int (Int32.ofNat s0)] p (zh K (code, rf, rs, bad, pr, pn, len, plc, fin, ef, es, rr, rc, om) (m, pa, pb, pc, vf, vs, tx, rd, ou) w) Q := by
  obtain ⟨h1, H⟩ := H
  refine zW_bh (zcmp .eq (Int32.ofNat s0) (0 : Int32)) 122 116 [some (.ref 75), some (.int x1), some (.int (Int32.ofNat x2)), some (.int (Int32.ofNat s0)), some (.int (Int32.ofNat x4))] [.ref 75] 4 (fun f => rfl) (fun c => ?_) (fun c => ?_)
  · have c9 : s0 = 0 := (of_decide_eq_true ((zcN_eq (a := s0) (b := 0) rfl rfl h1 (by decide)).symm.trans c))
    replace H := H.1 c9
    refine zW_gh 127 [some (.ref 75), some (.int x1), some (.int (Int32.ofNat x2)), some (.int (Int32.ofNat s0)), some (.int (Int32.ofNat x4))] [.int (1 : Int32), .ref 75] 2 (fun f => rfl) ?_
    refine zW_cl rfl rfl rfl rfl rfl ((s229 (b := true)) ?_)
    change zW zm_230 130 [some (.ref 75), some (.int x1), some (.int (Int32.ofNat x2)), some (.int (Int32.ofNat s0)), some (.int (Int32.ofNat x4))] [] p _ Q
    refine zW_bh (zcmp .eq (Int32.ofNat s0) (0 : Int32)) 150 139 [some (.ref 75), some (.int x1), some (.int (Int32.ofNat x2)), some (.int (Int32.ofNat s0)), some (.int (Int32.ofNat x4))] [.int (Int32.ofNat plc), .ref 75] 5 (fun f => rfl) (fun c => ?_) (fun c => ?_)
    · have c9 : s0 = 0 := (of_decide_eq_true ((zcN_eq (a := s0) (b := 0) rfl rfl h1 (by decide)).symm.trans c))
      replace H := H.1 c9
      refine zW_gh 152 [some (.ref 75), some (.int x1), some (.int (Int32.ofNat x2)), some (.int (Int32.ofNat s0)), some (.int (Int32.ofNat x4))] [.int ((Int32.ofNat plc) + (0 : Int32)), .ref 75] 2 (fun f => rfl) ?_
      rw [show ((Int32.ofNat plc) + (0 : Int32)) = Int32.ofNat (plc + 0) from (zN_a rfl rfl)]
      refine zW_go (pc' := 155) (L' := [some (.ref 75), some (.int x1), some (.int (Int32.ofNat x2)), some (.int (Int32.ofNat s0)), some (.int (Int32.ofNat x4))]) (st' := []) (h' := (va_up (zh K (code, rf, rs, bad, pr, pn, len, plc, (fin && true), ef, es, rr, rc, om) (m, pa, pb, pc, vf, vs, tx, rd, ou) w) 75 (.inr (7, zfl (code, rf, rs, bad, pr, pn, len, (plc + 0), (fin && true), ef, es, rr, rc, om))))) 1 (fun f => rfl) ?_
      refine zW_eq zu_75 ?_
      refine zW_gh 21 [some (.ref 75), some (.int x1), some (.int (Int32.ofNat x2)), some (.int (Int32.ofNat s0)), some (.int (Int32.ofNat x4))] [] 1 (fun f => rfl) ?_
      exact H
    · have c9 : ¬ s0 = 0 := (of_decide_eq_false ((zcN_eq (a := s0) (b := 0) rfl rfl h1 (by decide)).symm.trans c))
      replace H := H.2 c9
      refine zW_bh (zcmp .eq (zbi (fin && true)) (0 : Int32)) 150 146 [some (.ref 75), some (.int x1), some (.int (Int32.ofNat x2)), some (.int (Int32.ofNat s0)), some (.int (Int32.ofNat x4))] [.int (Int32.ofNat plc), .ref 75] 3 (fun f => rfl) (fun c => ?_) (fun c => ?_)
      · have c9 : (fin && true) = false := ((Bool.not_eq_true' _).mp ((zcB_eq _).symm.trans c))
        replace H := H.1 c9
        refine zW_gh 152 [some (.ref 75), some (.int x1), some (.int (Int32.ofNat x2)), some (.int (Int32.ofNat s0)), some (.int (Int32.ofNat x4))] [.int ((Int32.ofNat plc) + (0 : Int32)), .ref 75] 2 (fun f => rfl) ?_
        rw [show ((Int32.ofNat plc) + (0 : Int32)) = Int32.ofNat (plc + 0) from (zN_a rfl rfl)]
        refine zW_go (pc' := 155) (L' := [some (.ref 75), some (.int x1), some (.int (Int32.ofNat x2)), some (.int (Int32.ofNat s0)), some (.int (Int32.ofNat x4))]) (st' := []) (h' := (va_up (zh K (code, rf, rs, bad, pr, pn, len, plc, (fin && true), ef, es, rr, rc, om) (m, pa, pb, pc, vf, vs, tx, rd, ou) w) 75 (.inr (7, zfl (code, rf, rs, bad, pr, pn, len, (plc + 0), (fin && true), ef, es, rr, rc, om))))) 1 (fun f => rfl) ?_
        refine zW_eq zu_75 ?_
        refine zW_gh 21 [some (.ref 75), some (.int x1), some (.int (Int32.ofNat x2)), some (.int (Int32.ofNat s0)), some (.int (Int32.ofNat x4))] [] 1 (fun f => rfl) ?_
        exact H
      · have c9 : (fin && true) = true := ((Bool.not_eq_false' _).mp ((zcB_eq _).symm.trans c))
        replace H := H.2 c9
        refine zW_gh 152 [some (.ref 75), some (.int x1), some (.int (Int32.ofNat x2)), some (.int (Int32.ofNat s0)), some (.int (Int32.ofNat x4))] [.int ((Int32.ofNat plc) + (1 : Int32)), .ref 75] 3 (fun f => rfl) ?_
        rw [show ((Int32.ofNat plc) + (1 : Int32)) = Int32.ofNat (plc + 1) from (zN_a rfl rfl)]
        refine zW_go (pc' := 155) (L' := [some (.ref 75), some (.int x1), some (.int (Int32.ofNat x2)), some (.int (Int32.ofNat s0)), some (.int (Int32.ofNat x4))]) (st' := []) (h' := (va_up (zh K (code, rf, rs, bad, pr, pn, len, plc, (fin && true), ef, es, rr, rc, om) (m, pa, pb, pc, vf, vs, tx, rd, ou) w) 75 (.inr (7, zfl (code, rf, rs, bad, pr, pn, len, (plc + 1), (fin && true), ef, es, rr, rc, om))))) 1 (fun f => rfl) ?_
        refine zW_eq zu_75 ?_
        refine zW_gh 21 [some (.ref 75), some (.int x1), some (.int (Int32.ofNat x2)), some (.int (Int32.ofNat s0)), some (.int (Int32.ofNat x4))] [] 1 (fun f => rfl) ?_
        exact H
  · have c9 : ¬ s0 = 0 := (of_decide_eq_false ((zcN_eq (a := s0) (b := 0) rfl rfl h1 (by decide)).symm.trans c))
    replace H := H.2 c9
    obtain ⟨h2, H⟩ := H
    obtain ⟨h3, H⟩ := H
    refine zW_bh (zcmp .ge (Int32.ofNat x2) (Int32.ofNat x4)) 126 122 [some (.ref 75), some (.int x1), some (.int (Int32.ofNat x2)), some (.int (Int32.ofNat s0)), some (.int (Int32.ofNat x4))] [.ref 75] 3 (fun f => rfl) (fun c => ?_) (fun c => ?_)
    · have c9 : x4 ≤ x2 := (of_decide_eq_true ((zcN_ge (a := x2) (b := x4) rfl rfl h2 h3).symm.trans c))
      replace H := H.1 c9
      refine zW_gh 127 [some (.ref 75), some (.int x1), some (.int (Int32.ofNat x2)), some (.int (Int32.ofNat s0)), some (.int (Int32.ofNat x4))] [.int (0 : Int32), .ref 75] 1 (fun f => rfl) ?_
      refine zW_cl rfl rfl rfl rfl rfl ((s229 (b := false)) ?_)
      change zW zm_230 130 [some (.ref 75), some (.int x1), some (.int (Int32.ofNat x2)), some (.int (Int32.ofNat s0)), some (.int (Int32.ofNat x4))] [] p _ Q
      refine zW_bh (zcmp .eq (Int32.ofNat s0) (0 : Int32)) 150 139 [some (.ref 75), some (.int x1), some (.int (Int32.ofNat x2)), some (.int (Int32.ofNat s0)), some (.int (Int32.ofNat x4))] [.int (Int32.ofNat plc), .ref 75] 5 (fun f => rfl) (fun c => ?_) (fun c => ?_)
      · have c9 : s0 = 0 := (of_decide_eq_true ((zcN_eq (a := s0) (b := 0) rfl rfl h1 (by decide)).symm.trans c))
        replace H := H.1 c9
        refine zW_gh 152 [some (.ref 75), some (.int x1), some (.int (Int32.ofNat x2)), some (.int (Int32.ofNat s0)), some (.int (Int32.ofNat x4))] [.int ((Int32.ofNat plc) + (0 : Int32)), .ref 75] 2 (fun f => rfl) ?_
        rw [show ((Int32.ofNat plc) + (0 : Int32)) = Int32.ofNat (plc + 0) from (zN_a rfl rfl)]
        refine zW_go (pc' := 155) (L' := [some (.ref 75), some (.int x1), some (.int (Int32.ofNat x2)), some (.int (Int32.ofNat s0)), some (.int (Int32.ofNat x4))]) (st' := []) (h' := (va_up (zh K (code, rf, rs, bad, pr, pn, len, plc, (fin && false), ef, es, rr, rc, om) (m, pa, pb, pc, vf, vs, tx, rd, ou) w) 75 (.inr (7, zfl (code, rf, rs, bad, pr, pn, len, (plc + 0), (fin && false), ef, es, rr, rc, om))))) 1 (fun f => rfl) ?_
        refine zW_eq zu_75 ?_
        refine zW_gh 21 [some (.ref 75), some (.int x1), some (.int (Int32.ofNat x2)), some (.int (Int32.ofNat s0)), some (.int (Int32.ofNat x4))] [] 1 (fun f => rfl) ?_
        exact H
      · have c9 : ¬ s0 = 0 := (of_decide_eq_false ((zcN_eq (a := s0) (b := 0) rfl rfl h1 (by decide)).symm.trans c))
        replace H := H.2 c9
        refine zW_bh (zcmp .eq (zbi (fin && false)) (0 : Int32)) 150 146 [some (.ref 75), some (.int x1), some (.int (Int32.ofNat x2)), some (.int (Int32.ofNat s0)), some (.int (Int32.ofNat x4))] [.int (Int32.ofNat plc), .ref 75] 3 (fun f => rfl) (fun c => ?_) (fun c => ?_)
        · have c9 : (fin && false) = false := ((Bool.not_eq_true' _).mp ((zcB_eq _).symm.trans c))
          replace H := H.1 c9
          refine zW_gh 152 [some (.ref 75), some (.int x1), some (.int (Int32.ofNat x2)), some (.int (Int32.ofNat s0)), some (.int (Int32.ofNat x4))] [.int ((Int32.ofNat plc) + (0 : Int32)), .ref 75] 2 (fun f => rfl) ?_
          rw [show ((Int32.ofNat plc) + (0 : Int32)) = Int32.ofNat (plc + 0) from (zN_a rfl rfl)]
          refine zW_go (pc' := 155) (L' := [some (.ref 75), some (.int x1), some (.int (Int32.ofNat x2)), some (.int (Int32.ofNat s0)), some (.int (Int32.ofNat x4))]) (st' := []) (h' := (va_up (zh K (code, rf, rs, bad, pr, pn, len, plc, (fin && false), ef, es, rr, rc, om) (m, pa, pb, pc, vf, vs, tx, rd, ou) w) 75 (.inr (7, zfl (code, rf, rs, bad, pr, pn, len, (plc + 0), (fin && false), ef, es, rr, rc, om))))) 1 (fun f => rfl) ?_
          refine zW_eq zu_75 ?_
          refine zW_gh 21 [some (.ref 75), some (.int x1), some (.int (Int32.ofNat x2)), some (.int (Int32.ofNat s0)), some (.int (Int32.ofNat x4))] [] 1 (fun f => rfl) ?_
          exact H
        · have c9 : (fin && false) = true := ((Bool.not_eq_false' _).mp ((zcB_eq _).symm.trans c))
          replace H := H.2 c9
          refine zW_gh 152 [some (.ref 75), some (.int x1), some (.int (Int32.ofNat x2)), some (.int (Int32.ofNat s0)), some (.int (Int32.ofNat x4))] [.int ((Int32.ofNat plc) + (1 : Int32)), .ref 75] 3 (fun f => rfl) ?_
          rw [show ((Int32.ofNat plc) + (1 : Int32)) = Int32.ofNat (plc + 1) from (zN_a rfl rfl)]
          refine zW_go (pc' := 155) (L' := [some (.ref 75), some (.int x1), some (.int (Int32.ofNat x2)), some (.int (Int32.ofNat s0)), some (.int (Int32.ofNat x4))]) (st' := []) (h' := (va_up (zh K (code, rf, rs, bad, pr, pn, len, plc, (fin && false), ef, es, rr, rc, om) (m, pa, pb, pc, vf, vs, tx, rd, ou) w) 75 (.inr (7, zfl (code, rf, rs, bad, pr, pn, len, (plc + 1), (fin && false), ef, es, rr, rc, om))))) 1 (fun f => rfl) ?_
          refine zW_eq zu_75 ?_
          refine zW_gh 21 [some (.ref 75), some (.int x1), some (.int (Int32.ofNat x2)), some (.int (Int32.ofNat s0)), some (.int (Int32.ofNat x4))] [] 1 (fun f => rfl) ?_
          exact H
    · have c9 : x2 < x4 := (Nat.lt_of_not_le (of_decide_eq_false ((zcN_ge (a := x2) (b := x4) rfl rfl h2 h3).symm.trans c)))
      replace H := H.2 c9
      refine zW_gh 127 [some (.ref 75), some (.int x1), some (.int (Int32.ofNat x2)), some (.int (Int32.ofNat s0)), some (.int (Int32.ofNat x4))] [.int (1 : Int32), .ref 75] 2 (fun f => rfl) ?_
      refine zW_cl rfl rfl rfl rfl rfl ((s229 (b := true)) ?_)
      change zW zm_230 130 [some (.ref 75), some (.int x1), some (.int (Int32.ofNat x2)), some (.int (Int32.ofNat s0)), some (.int (Int32.ofNat x4))] [] p _ Q
      refine zW_bh (zcmp .eq (Int32.ofNat s0) (0 : Int32)) 150 139 [some (.ref 75), some (.int x1), some (.int (Int32.ofNat x2)), some (.int (Int32.ofNat s0)), some (.int (Int32.ofNat x4))] [.int (Int32.ofNat plc), .ref 75] 5 (fun f => rfl) (fun c => ?_) (fun c => ?_)
      · have c9 : s0 = 0 := (of_decide_eq_true ((zcN_eq (a := s0) (b := 0) rfl rfl h1 (by decide)).symm.trans c))
        replace H := H.1 c9
        refine zW_gh 152 [some (.ref 75), some (.int x1), some (.int (Int32.ofNat x2)), some (.int (Int32.ofNat s0)), some (.int (Int32.ofNat x4))] [.int ((Int32.ofNat plc) + (0 : Int32)), .ref 75] 2 (fun f => rfl) ?_
        rw [show ((Int32.ofNat plc) + (0 : Int32)) = Int32.ofNat (plc + 0) from (zN_a rfl rfl)]
        refine zW_go (pc' := 155) (L' := [some (.ref 75), some (.int x1), some (.int (Int32.ofNat x2)), some (.int (Int32.ofNat s0)), some (.int (Int32.ofNat x4))]) (st' := []) (h' := (va_up (zh K (code, rf, rs, bad, pr, pn, len, plc, (fin && true), ef, es, rr, rc, om) (m, pa, pb, pc, vf, vs, tx, rd, ou) w) 75 (.inr (7, zfl (code, rf, rs, bad, pr, pn, len, (plc + 0), (fin && true), ef, es, rr, rc, om))))) 1 (fun f => rfl) ?_
        refine zW_eq zu_75 ?_
        refine zW_gh 21 [some (.ref 75), some (.int x1), some (.int (Int32.ofNat x2)), some (.int (Int32.ofNat s0)), some (.int (Int32.ofNat x4))] [] 1 (fun f => rfl) ?_
        exact H
      · have c9 : ¬ s0 = 0 := (of_decide_eq_false ((zcN_eq (a := s0) (b := 0) rfl rfl h1 (by decide)).symm.trans c))
        replace H := H.2 c9
        refine zW_bh (zcmp .eq (zbi (fin && true)) (0 : Int32)) 150 146 [some (.ref 75), some (.int x1), some (.int (Int32.ofNat x2)), some (.int (Int32.ofNat s0)), some (.int (Int32.ofNat x4))] [.int (Int32.ofNat plc), .ref 75] 3 (fun f => rfl) (fun c => ?_) (fun c => ?_)
        · have c9 : (fin && true) = false := ((Bool.not_eq_true' _).mp ((zcB_eq _).symm.trans c))
          replace H := H.1 c9
          refine zW_gh 152 [some (.ref 75), some (.int x1), some (.int (Int32.ofNat x2)), some (.int (Int32.ofNat s0)), some (.int (Int32.ofNat x4))] [.int ((Int32.ofNat plc) + (0 : Int32)), .ref 75] 2 (fun f => rfl) ?_
          rw [show ((Int32.ofNat plc) + (0 : Int32)) = Int32.ofNat (plc + 0) from (zN_a rfl rfl)]
          refine zW_go (pc' := 155) (L' := [some (.ref 75), some (.int x1), some (.int (Int32.ofNat x2)), some (.int (Int32.ofNat s0)), some (.int (Int32.ofNat x4))]) (st' := []) (h' := (va_up (zh K (code, rf, rs, bad, pr, pn, len, plc, (fin && true), ef, es, rr, rc, om) (m, pa, pb, pc, vf, vs, tx, rd, ou) w) 75 (.inr (7, zfl (code, rf, rs, bad, pr, pn, len, (plc + 0), (fin && true), ef, es, rr, rc, om))))) 1 (fun f => rfl) ?_
          refine zW_eq zu_75 ?_
          refine zW_gh 21 [some (.ref 75), some (.int x1), some (.int (Int32.ofNat x2)), some (.int (Int32.ofNat s0)), some (.int (Int32.ofNat x4))] [] 1 (fun f => rfl) ?_
          exact H
        · have c9 : (fin && true) = true := ((Bool.not_eq_false' _).mp ((zcB_eq _).symm.trans c))
          replace H := H.2 c9
          refine zW_gh 152 [some (.ref 75), some (.int x1), some (.int (Int32.ofNat x2)), some (.int (Int32.ofNat s0)), some (.int (Int32.ofNat x4))] [.int ((Int32.ofNat plc) + (1 : Int32)), .ref 75] 3 (fun f => rfl) ?_
          rw [show ((Int32.ofNat plc) + (1 : Int32)) = Int32.ofNat (plc + 1) from (zN_a rfl rfl)]
          refine zW_go (pc' := 155) (L' := [some (.ref 75), some (.int x1), some (.int (Int32.ofNat x2)), some (.int (Int32.ofNat s0)), some (.int (Int32.ofNat x4))]) (st' := []) (h' := (va_up (zh K (code, rf, rs, bad, pr, pn, len, plc, (fin && true), ef, es, rr, rc, om) (m, pa, pb, pc, vf, vs, tx, rd, ou) w) 75 (.inr (7, zfl (code, rf, rs, bad, pr, pn, len, (plc + 1), (fin && true), ef, es, rr, rc, om))))) 1 (fun f => rfl) ?_
          refine zW_eq zu_75 ?_
          refine zW_gh 21 [some (.ref 75), some (.int x1), some (.int (Int32.ofNat x2)), some (.int (Int32.ofNat s0)), some (.int (Int32.ofNat x4))] [] 1 (fun f => rfl) ?_
          exact H
set_option maxRecDepth 20000 in
theorem b227 {K : zKt} {code rf rs pr pn ef es : Int32} {bad fin : Bool} {len plc rr rc om : Nat} {m pa pb pc vf vs tx rd ou : Nat → Int32} {w : Nat → Int64} {p : Nat × Nat} {Q : zR → zH → Prop} {a0 : Int32} (H : (len ≤ 120 ∧ (0 < 2147483648 ∧ (((true && (zhere tx len 0 (91 : Int32))) = false → zW zm_227 56 [some (.ref 75), some (.int a0), some (.int (zbi (true && (zhere tx len 0 (91 : Int32)))))] [] p (zh K (code, rf, rs, bad, pr, pn, len, (0 + 0), (true && (zhere tx len 0 (91 : Int32))), ef, es, 0, 0, om) (m, pa, pb, pc, vf, vs, tx, rd, ou) w) Q) ∧ ((true && (zhere tx len 0 (91 : Int32))) = true → zW zm_227 56 [some (.ref 75), some (.int a0), some (.int (zbi (true && (zhere tx len 0 (91 : Int32)))))] [] p (zh K (code, rf, rs, bad, pr, pn, len, (0 + 1), (true && (zhere tx len 0 (91 : Int32))), ef, es, 0, 0, om) (m, pa, pb, pc, vf, vs, tx, rd, ou) w) Q))))) : zT zm_227 [.ref 75, .int a0] p (zh K (code, rf, rs, bad, pr, pn, len, plc, fin, ef, es, rr, rc, om) (m, pa, pb, pc, vf, vs, tx, rd, ou) w) Q := by
  change zW zm_227 0 [some (.ref 75), some (.int a0), none] [] p _ Q
  refine zW_gh 2 [some (.ref 75), some (.int a0), none] [.int (0 : Int32), .ref 75] 2 (fun f => rfl) ?_
  refine zW_go (pc' := 5) (L' := [some (.ref 75), some (.int a0), none]) (st' := []) (h' := (va_up (zh K (code, rf, rs, bad, pr, pn, len, plc, fin, ef, es, rr, rc, om) (m, pa, pb, pc, vf, vs, tx, rd, ou) w) 75 (.inr (7, zfl (code, rf, rs, bad, pr, pn, len, 0, fin, ef, es, rr, rc, om))))) 1 (fun f => rfl) ?_
  refine zW_eq zu_75 ?_
  refine zW_gh 7 [some (.ref 75), some (.int a0), none] [.int (1 : Int32), .ref 75] 2 (fun f => rfl) ?_
  refine zW_go (pc' := 10) (L' := [some (.ref 75), some (.int a0), none]) (st' := []) (h' := (va_up (zh K (code, rf, rs, bad, pr, pn, len, 0, fin, ef, es, rr, rc, om) (m, pa, pb, pc, vf, vs, tx, rd, ou) w) 75 (.inr (7, zfl (code, rf, rs, bad, pr, pn, len, 0, true, ef, es, rr, rc, om))))) 1 (fun f => rfl) ?_
  refine zW_eq zu_75 ?_
  refine zW_gh 14 [some (.ref 75), some (.int a0), none] [.int (91 : Int32), .ref 75, .ref 75] 3 (fun f => rfl) ?_
  obtain ⟨h1, H⟩ := H
  obtain ⟨h2, H⟩ := H
  refine zW_cl rfl rfl rfl rfl rfl (s228 h1 h2 ?_)
  change zW zm_227 17 [some (.ref 75), some (.int a0), none] [.int (zbi (zhere tx len 0 (91 : Int32))), .ref 75] p _ Q
  refine zW_cl rfl rfl rfl rfl rfl ((s229 (b := (zhere tx len 0 (91 : Int32)))) ?_)
  change zW zm_227 20 [some (.ref 75), some (.int a0), none] [] p _ Q
  refine zW_bh (zcmp .eq (zbi (true && (zhere tx len 0 (91 : Int32)))) (0 : Int32)) 36 32 [some (.ref 75), some (.int a0), none] [.int (Int32.ofNat 0), .ref 75] 6 (fun f => rfl) (fun c => ?_) (fun c => ?_)
  · have c9 : (true && (zhere tx len 0 (91 : Int32))) = false := ((Bool.not_eq_true' _).mp ((zcB_eq _).symm.trans c))
    replace H := H.1 c9
    refine zW_gh 38 [some (.ref 75), some (.int a0), none] [.int ((Int32.ofNat 0) + (0 : Int32)), .ref 75] 2 (fun f => rfl) ?_
    rw [show ((Int32.ofNat 0) + (0 : Int32)) = Int32.ofNat (0 + 0) from (zN_a rfl rfl)]
    refine zW_go (pc' := 41) (L' := [some (.ref 75), some (.int a0), none]) (st' := []) (h' := (va_up (zh K (code, rf, rs, bad, pr, pn, len, 0, (true && (zhere tx len 0 (91 : Int32))), ef, es, rr, rc, om) (m, pa, pb, pc, vf, vs, tx, rd, ou) w) 75 (.inr (7, zfl (code, rf, rs, bad, pr, pn, len, (0 + 0), (true && (zhere tx len 0 (91 : Int32))), ef, es, rr, rc, om))))) 1 (fun f => rfl) ?_
    refine zW_eq zu_75 ?_
    refine zW_gh 43 [some (.ref 75), some (.int a0), none] [.int (0 : Int32), .ref 75] 2 (fun f => rfl) ?_
    refine zW_go (pc' := 46) (L' := [some (.ref 75), some (.int a0), none]) (st' := []) (h' := (va_up (zh K (code, rf, rs, bad, pr, pn, len, (0 + 0), (true && (zhere tx len 0 (91 : Int32))), ef, es, rr, rc, om) (m, pa, pb, pc, vf, vs, tx, rd, ou) w) 75 (.inr (7, zfl (code, rf, rs, bad, pr, pn, len, (0 + 0), (true && (zhere tx len 0 (91 : Int32))), ef, es, 0, rc, om))))) 1 (fun f => rfl) ?_
    refine zW_eq zu_75 ?_
    refine zW_gh 48 [some (.ref 75), some (.int a0), none] [.int (0 : Int32), .ref 75] 2 (fun f => rfl) ?_
    refine zW_go (pc' := 51) (L' := [some (.ref 75), some (.int a0), none]) (st' := []) (h' := (va_up (zh K (code, rf, rs, bad, pr, pn, len, (0 + 0), (true && (zhere tx len 0 (91 : Int32))), ef, es, 0, rc, om) (m, pa, pb, pc, vf, vs, tx, rd, ou) w) 75 (.inr (7, zfl (code, rf, rs, bad, pr, pn, len, (0 + 0), (true && (zhere tx len 0 (91 : Int32))), ef, es, 0, 0, om))))) 1 (fun f => rfl) ?_
    refine zW_eq zu_75 ?_
    refine zW_gh 56 [some (.ref 75), some (.int a0), some (.int (zbi (true && (zhere tx len 0 (91 : Int32)))))] [] 3 (fun f => rfl) ?_
    exact H
  · have c9 : (true && (zhere tx len 0 (91 : Int32))) = true := ((Bool.not_eq_false' _).mp ((zcB_eq _).symm.trans c))
    replace H := H.2 c9
    refine zW_gh 38 [some (.ref 75), some (.int a0), none] [.int ((Int32.ofNat 0) + (1 : Int32)), .ref 75] 3 (fun f => rfl) ?_
    rw [show ((Int32.ofNat 0) + (1 : Int32)) = Int32.ofNat (0 + 1) from (zN_a rfl rfl)]
    refine zW_go (pc' := 41) (L' := [some (.ref 75), some (.int a0), none]) (st' := []) (h' := (va_up (zh K (code, rf, rs, bad, pr, pn, len, 0, (true && (zhere tx len 0 (91 : Int32))), ef, es, rr, rc, om) (m, pa, pb, pc, vf, vs, tx, rd, ou) w) 75 (.inr (7, zfl (code, rf, rs, bad, pr, pn, len, (0 + 1), (true && (zhere tx len 0 (91 : Int32))), ef, es, rr, rc, om))))) 1 (fun f => rfl) ?_
    refine zW_eq zu_75 ?_
    refine zW_gh 43 [some (.ref 75), some (.int a0), none] [.int (0 : Int32), .ref 75] 2 (fun f => rfl) ?_
    refine zW_go (pc' := 46) (L' := [some (.ref 75), some (.int a0), none]) (st' := []) (h' := (va_up (zh K (code, rf, rs, bad, pr, pn, len, (0 + 1), (true && (zhere tx len 0 (91 : Int32))), ef, es, rr, rc, om) (m, pa, pb, pc, vf, vs, tx, rd, ou) w) 75 (.inr (7, zfl (code, rf, rs, bad, pr, pn, len, (0 + 1), (true && (zhere tx len 0 (91 : Int32))), ef, es, 0, rc, om))))) 1 (fun f => rfl) ?_
    refine zW_eq zu_75 ?_
    refine zW_gh 48 [some (.ref 75), some (.int a0), none] [.int (0 : Int32), .ref 75] 2 (fun f => rfl) ?_
    refine zW_go (pc' := 51) (L' := [some (.ref 75), some (.int a0), none]) (st' := []) (h' := (va_up (zh K (code, rf, rs, bad, pr, pn, len, (0 + 1), (true && (zhere tx len 0 (91 : Int32))), ef, es, 0, rc, om) (m, pa, pb, pc, vf, vs, tx, rd, ou) w) 75 (.inr (7, zfl (code, rf, rs, bad, pr, pn, len, (0 + 1), (true && (zhere tx len 0 (91 : Int32))), ef, es, 0, 0, om))))) 1 (fun f => rfl) ?_
    refine zW_eq zu_75 ?_
    refine zW_gh 56 [some (.ref 75), some (.int a0), some (.int (zbi (true && (zhere tx len 0 (91 : Int32)))))] [] 3 (fun f => rfl) ?_
    exact H
set_option maxRecDepth 20000 in
theorem b227_56 {K : zKt} {code rf rs pr pn ef es : Int32} {bad fin : Bool} {len plc rr rc om : Nat} {m pa pb pc vf vs tx rd ou : Nat → Int32} {w : Nat → Int64} {p : Nat × Nat} {Q : zR → zH → Prop} {x1 : Int32} {x2 : Bool} (H : ((x2 = false → (len ≤ 120 ∧ (plc < 2147483648 ∧ (((fin && (zhere tx len plc (93 : Int32))) = false → ((plc + 0) < 2147483648 ∧ (len < 2147483648 ∧ ((¬ (plc + 0) = len → Q (.inl (some (.int (zbi ((fin && (zhere tx len plc (93 : Int32))) && false))))) (zh K (code, rf, rs, bad, pr, pn, len, (plc + 0), ((fin && (zhere tx len plc (93 : Int32))) && false), ef, es, rr, rc, om) (m, pa, pb, pc, vf, vs, tx, rd, ou) w)) ∧ ((plc + 0) = len → Q (.inl (some (.int (zbi ((fin && (zhere tx len plc (93 : Int32))) && true))))) (zh K (code, rf, rs, bad, pr, pn, len, (plc + 0), ((fin && (zhere tx len plc (93 : Int32))) && true), ef, es, rr, rc, om) (m, pa, pb, pc, vf, vs, tx, rd, ou) w)))))) ∧ ((fin && (zhere tx len plc (93 : Int32))) = true → ((plc + 1) < 2147483648 ∧ (len < 2147483648 ∧ ((¬ (plc + 1) = len → Q (.inl (some (.int (zbi ((fin && (zhere tx len plc (93 : Int32))) && false))))) (zh K (code, rf, rs, bad, pr, pn, len, (plc + 1), ((fin && (zhere tx len plc (93 : Int32))) && false), ef, es, rr, rc, om) (m, pa, pb, pc, vf, vs, tx, rd, ou) w)) ∧ ((plc + 1) = len → Q (.inl (some (.int (zbi ((fin && (zhere tx len plc (93 : Int32))) && true))))) (zh K (code, rf, rs, bad, pr, pn, len, (plc + 1), ((fin && (zhere tx len plc (93 : Int32))) && true), ef, es, rr, rc, om) (m, pa, pb, pc, vf, vs, tx, rd, ou) w)))))))))) ∧ (x2 = true → zT zm_230 [.ref 75, .int x1] p (zh K (code, rf, rs, bad, pr, pn, len, plc, fin, ef, es, rr, rc, om) (m, pa, pb, pc, vf, vs, tx, rd, ou) w) (zK zm_227 65 [some (.ref 75), some (.int x1), none] [] p Q)))) : zW zm_227 56 [some (.ref 75), some (.int x1), some (.int (zbi x2))] [] p (zh K (code, rf, rs, bad, pr, pn, len, plc, fin, ef, es, rr, rc, om) (m, pa, pb, pc, vf, vs, tx, rd, ou) w) Q := by
  refine zW_bh (zcmp .eq (zbi x2) (0 : Int32)) 146 60 [some (.ref 75), some (.int x1), some (.int (zbi x2))] [] 2 (fun f => rfl) (fun c => ?_) (fun c => ?_)
  · have c9 : x2 = false := ((Bool.not_eq_true' _).mp ((zcB_eq _).symm.trans c))
    replace H := H.1 c9
    refine zW_gh 150 [some (.ref 75), some (.int x1), some (.int (zbi x2))] [.int (93 : Int32), .ref 75, .ref 75] 3 (fun f => rfl) ?_
    obtain ⟨h1, H⟩ := H
    obtain ⟨h2, H⟩ := H
    refine zW_cl rfl rfl rfl rfl rfl (s228 h1 h2 ?_)
    change zW zm_227 153 [some (.ref 75), some (.int x1), some (.int (zbi x2))] [.int (zbi (zhere tx len plc (93 : Int32))), .ref 75] p _ Q
    refine zW_cl rfl rfl rfl rfl rfl ((s229 (b := (zhere tx len plc (93 : Int32)))) ?_)
    change zW zm_227 156 [some (.ref 75), some (.int x1), some (.int (zbi x2))] [] p _ Q
    refine zW_bh (zcmp .eq (zbi (fin && (zhere tx len plc (93 : Int32)))) (0 : Int32)) 172 168 [some (.ref 75), some (.int x1), some (.int (zbi x2))] [.int (Int32.ofNat plc), .ref 75] 6 (fun f => rfl) (fun c => ?_) (fun c => ?_)
    · have c9 : (fin && (zhere tx len plc (93 : Int32))) = false := ((Bool.not_eq_true' _).mp ((zcB_eq _).symm.trans c))
      replace H := H.1 c9
      refine zW_gh 174 [some (.ref 75), some (.int x1), some (.int (zbi x2))] [.int ((Int32.ofNat plc) + (0 : Int32)), .ref 75] 2 (fun f => rfl) ?_
      rw [show ((Int32.ofNat plc) + (0 : Int32)) = Int32.ofNat (plc + 0) from (zN_a rfl rfl)]
      refine zW_go (pc' := 177) (L' := [some (.ref 75), some (.int x1), some (.int (zbi x2))]) (st' := []) (h' := (va_up (zh K (code, rf, rs, bad, pr, pn, len, plc, (fin && (zhere tx len plc (93 : Int32))), ef, es, rr, rc, om) (m, pa, pb, pc, vf, vs, tx, rd, ou) w) 75 (.inr (7, zfl (code, rf, rs, bad, pr, pn, len, (plc + 0), (fin && (zhere tx len plc (93 : Int32))), ef, es, rr, rc, om))))) 1 (fun f => rfl) ?_
      refine zW_eq zu_75 ?_
      obtain ⟨h3, H⟩ := H
      obtain ⟨h4, H⟩ := H
      refine zW_bh (zcmp .ne (Int32.ofNat (plc + 0)) (Int32.ofNat len)) 193 189 [some (.ref 75), some (.int x1), some (.int (zbi x2))] [.ref 75] 6 (fun f => rfl) (fun c => ?_) (fun c => ?_)
      · have c9 : ¬ (plc + 0) = len := (by have c := (zcN_ne (a := (plc + 0)) (b := len) rfl rfl h3 h4).symm.trans c; simpa using c)
        replace H := H.1 c9
        refine zW_gh 194 [some (.ref 75), some (.int x1), some (.int (zbi x2))] [.int (0 : Int32), .ref 75] 1 (fun f => rfl) ?_
        refine zW_cl rfl rfl rfl rfl rfl ((s229 (b := false)) ?_)
        change zW zm_227 197 [some (.ref 75), some (.int x1), some (.int (zbi x2))] [] p _ Q
        refine zW_gh 201 [some (.ref 75), some (.int x1), some (.int (zbi x2))] [.int (zbi ((fin && (zhere tx len plc (93 : Int32))) && false))] 2 (fun f => rfl) ?_
        exact zW_rh (some (.int (zbi ((fin && (zhere tx len plc (93 : Int32))) && false)))) 1 (fun f => by generalize ((fin && (zhere tx len plc (93 : Int32))) && false) = bb; cases bb <;> rfl) H
      · have c9 : (plc + 0) = len := (by have c := (zcN_ne (a := (plc + 0)) (b := len) rfl rfl h3 h4).symm.trans c; simpa using c)
        replace H := H.2 c9
        refine zW_gh 194 [some (.ref 75), some (.int x1), some (.int (zbi x2))] [.int (1 : Int32), .ref 75] 2 (fun f => rfl) ?_
        refine zW_cl rfl rfl rfl rfl rfl ((s229 (b := true)) ?_)
        change zW zm_227 197 [some (.ref 75), some (.int x1), some (.int (zbi x2))] [] p _ Q
        refine zW_gh 201 [some (.ref 75), some (.int x1), some (.int (zbi x2))] [.int (zbi ((fin && (zhere tx len plc (93 : Int32))) && true))] 2 (fun f => rfl) ?_
        exact zW_rh (some (.int (zbi ((fin && (zhere tx len plc (93 : Int32))) && true)))) 1 (fun f => by generalize ((fin && (zhere tx len plc (93 : Int32))) && true) = bb; cases bb <;> rfl) H
    · have c9 : (fin && (zhere tx len plc (93 : Int32))) = true := ((Bool.not_eq_false' _).mp ((zcB_eq _).symm.trans c))
      replace H := H.2 c9
      refine zW_gh 174 [some (.ref 75), some (.int x1), some (.int (zbi x2))] [.int ((Int32.ofNat plc) + (1 : Int32)), .ref 75] 3 (fun f => rfl) ?_
      rw [show ((Int32.ofNat plc) + (1 : Int32)) = Int32.ofNat (plc + 1) from (zN_a rfl rfl)]
      refine zW_go (pc' := 177) (L' := [some (.ref 75), some (.int x1), some (.int (zbi x2))]) (st' := []) (h' := (va_up (zh K (code, rf, rs, bad, pr, pn, len, plc, (fin && (zhere tx len plc (93 : Int32))), ef, es, rr, rc, om) (m, pa, pb, pc, vf, vs, tx, rd, ou) w) 75 (.inr (7, zfl (code, rf, rs, bad, pr, pn, len, (plc + 1), (fin && (zhere tx len plc (93 : Int32))), ef, es, rr, rc, om))))) 1 (fun f => rfl) ?_
      refine zW_eq zu_75 ?_
      obtain ⟨h5, H⟩ := H
      obtain ⟨h6, H⟩ := H
      refine zW_bh (zcmp .ne (Int32.ofNat (plc + 1)) (Int32.ofNat len)) 193 189 [some (.ref 75), some (.int x1), some (.int (zbi x2))] [.ref 75] 6 (fun f => rfl) (fun c => ?_) (fun c => ?_)
      · have c9 : ¬ (plc + 1) = len := (by have c := (zcN_ne (a := (plc + 1)) (b := len) rfl rfl h5 h6).symm.trans c; simpa using c)
        replace H := H.1 c9
        refine zW_gh 194 [some (.ref 75), some (.int x1), some (.int (zbi x2))] [.int (0 : Int32), .ref 75] 1 (fun f => rfl) ?_
        refine zW_cl rfl rfl rfl rfl rfl ((s229 (b := false)) ?_)
        change zW zm_227 197 [some (.ref 75), some (.int x1), some (.int (zbi x2))] [] p _ Q
        refine zW_gh 201 [some (.ref 75), some (.int x1), some (.int (zbi x2))] [.int (zbi ((fin && (zhere tx len plc (93 : Int32))) && false))] 2 (fun f => rfl) ?_
        exact zW_rh (some (.int (zbi ((fin && (zhere tx len plc (93 : Int32))) && false)))) 1 (fun f => by generalize ((fin && (zhere tx len plc (93 : Int32))) && false) = bb; cases bb <;> rfl) H
      · have c9 : (plc + 1) = len := (by have c := (zcN_ne (a := (plc + 1)) (b := len) rfl rfl h5 h6).symm.trans c; simpa using c)
        replace H := H.2 c9
        refine zW_gh 194 [some (.ref 75), some (.int x1), some (.int (zbi x2))] [.int (1 : Int32), .ref 75] 2 (fun f => rfl) ?_
        refine zW_cl rfl rfl rfl rfl rfl ((s229 (b := true)) ?_)
        change zW zm_227 197 [some (.ref 75), some (.int x1), some (.int (zbi x2))] [] p _ Q
        refine zW_gh 201 [some (.ref 75), some (.int x1), some (.int (zbi x2))] [.int (zbi ((fin && (zhere tx len plc (93 : Int32))) && true))] 2 (fun f => rfl) ?_
        exact zW_rh (some (.int (zbi ((fin && (zhere tx len plc (93 : Int32))) && true)))) 1 (fun f => by generalize ((fin && (zhere tx len plc (93 : Int32))) && true) = bb; cases bb <;> rfl) H
  · have c9 : x2 = true := ((Bool.not_eq_false' _).mp ((zcB_eq _).symm.trans c))
    replace H := H.2 c9
    refine zW_gh 62 [some (.ref 75), some (.int x1), some (.int (zbi x2))] [.int x1, .ref 75] 2 (fun f => rfl) ?_
    refine zW_fg (L' := [some (.ref 75), some (.int x1), none]) (zle_s _ (zle_s _ (zle_n _ zle_nil))) ?_
    exact zW_cl rfl rfl rfl rfl rfl H
set_option maxRecDepth 20000 in
theorem b227_65 {K : zKt} {code rf rs pr pn ef es : Int32} {bad fin : Bool} {len plc rr rc om : Nat} {m pa pb pc vf vs tx rd ou : Nat → Int32} {w : Nat → Int64} {p : Nat × Nat} {Q : zR → zH → Prop} {x1 : Int32} (H : ((fin = false → zW zm_227 86 [some (.ref 75), some (.int x1), none] [.int (0 : Int32)] p (zh K (code, rf, rs, bad, pr, pn, len, plc, fin, ef, es, rr, rc, om) (m, pa, pb, pc, vf, vs, tx, rd, ou) w) Q) ∧ (fin = true → (len ≤ 120 ∧ (plc < 2147483648 ∧ (((zhere tx len plc (59 : Int32)) = false → zW zm_227 86 [some (.ref 75), some (.int x1), none] [.int (0 : Int32)] p (zh K (code, rf, rs, bad, pr, pn, len, plc, fin, ef, es, rr, rc, om) (m, pa, pb, pc, vf, vs, tx, rd, ou) w) Q) ∧ ((zhere tx len plc (59 : Int32)) = true → zW zm_227 86 [some (.ref 75), some (.int x1), none] [.int (1 : Int32)] p (zh K (code, rf, rs, bad, pr, pn, len, plc, fin, ef, es, rr, rc, om) (m, pa, pb, pc, vf, vs, tx, rd, ou) w) Q))))))) : zW zm_227 65 [some (.ref 75), some (.int x1), none] [] p (zh K (code, rf, rs, bad, pr, pn, len, plc, fin, ef, es, rr, rc, om) (m, pa, pb, pc, vf, vs, tx, rd, ou) w) Q := by
  refine zW_bh (zcmp .eq (zbi fin) (0 : Int32)) 85 72 [some (.ref 75), some (.int x1), none] [] 3 (fun f => rfl) (fun c => ?_) (fun c => ?_)
  · have c9 : fin = false := ((Bool.not_eq_true' _).mp ((zcB_eq _).symm.trans c))
    replace H := H.1 c9
    refine zW_gh 86 [some (.ref 75), some (.int x1), none] [.int (0 : Int32)] 1 (fun f => rfl) ?_
    exact H
  · have c9 : fin = true := ((Bool.not_eq_false' _).mp ((zcB_eq _).symm.trans c))
    replace H := H.2 c9
    refine zW_gh 75 [some (.ref 75), some (.int x1), none] [.int (59 : Int32), .ref 75] 2 (fun f => rfl) ?_
    obtain ⟨h1, H⟩ := H
    obtain ⟨h2, H⟩ := H
    refine zW_cl rfl rfl rfl rfl rfl (s228 h1 h2 ?_)
    change zW zm_227 78 [some (.ref 75), some (.int x1), none] [.int (zbi (zhere tx len plc (59 : Int32)))] p _ Q
    refine zW_bh (zcmp .eq (zbi (zhere tx len plc (59 : Int32))) (0 : Int32)) 85 81 [some (.ref 75), some (.int x1), none] [] 1 (fun f => rfl) (fun c => ?_) (fun c => ?_)
    · have c9 : (zhere tx len plc (59 : Int32)) = false := ((Bool.not_eq_true' _).mp ((zcB_eq _).symm.trans c))
      replace H := H.1 c9
      refine zW_gh 86 [some (.ref 75), some (.int x1), none] [.int (0 : Int32)] 1 (fun f => rfl) ?_
      exact H
    · have c9 : (zhere tx len plc (59 : Int32)) = true := ((Bool.not_eq_false' _).mp ((zcB_eq _).symm.trans c))
      replace H := H.2 c9
      refine zW_gh 86 [some (.ref 75), some (.int x1), none] [.int (1 : Int32)] 2 (fun f => rfl) ?_
      exact H
set_option maxRecDepth 20000 in
theorem b227_86 {K : zKt} {code rf rs pr pn ef es : Int32} {bad fin : Bool} {len plc rr rc om : Nat} {m pa pb pc vf vs tx rd ou : Nat → Int32} {w : Nat → Int64} {p : Nat × Nat} {Q : zR → zH → Prop} {x1 : Int32} {s0 : Bool} (H : (rr < 2147483648 ∧ ((rr < 4 → ((s0 = false → zW zm_227 124 [some (.ref 75), some (.int x1), none] [.int (0 : Int32)] p (zh K (code, rf, rs, bad, pr, pn, len, plc, (fin && true), ef, es, rr, rc, om) (m, pa, pb, pc, vf, vs, tx, rd, ou) w) Q) ∧ (s0 = true → (((fin && true) = false → zW zm_227 124 [some (.ref 75), some (.int x1), none] [.int (0 : Int32)] p (zh K (code, rf, rs, bad, pr, pn, len, plc, (fin && true), ef, es, rr, rc, om) (m, pa, pb, pc, vf, vs, tx, rd, ou) w) Q) ∧ ((fin && true) = true → zW zm_227 124 [some (.ref 75), some (.int x1), none] [.int (1 : Int32)] p (zh K (code, rf, rs, bad, pr, pn, len, plc, (fin && true), ef, es, rr, rc, om) (m, pa, pb, pc, vf, vs, tx, rd, ou) w) Q))))) ∧ (4 ≤ rr → ((s0 = true → ((s0 = false → zW zm_227 124 [some (.ref 75), some (.int x1), none] [.int (0 : Int32)] p (zh K (code, rf, rs, bad, pr, pn, len, plc, (fin && false), ef, es, rr, rc, om) (m, pa, pb, pc, vf, vs, tx, rd, ou) w) Q) ∧ (s0 = true → (((fin && false) = false → zW zm_227 124 [some (.ref 75), some (.int x1), none] [.int (0 : Int32)] p (zh K (code, rf, rs, bad, pr, pn, len, plc, (fin && false), ef, es, rr, rc, om) (m, pa, pb, pc, vf, vs, tx, rd, ou) w) Q) ∧ ((fin && false) = true → zW zm_227 124 [some (.ref 75), some (.int x1), none] [.int (1 : Int32)] p (zh K (code, rf, rs, bad, pr, pn, len, plc, (fin && false), ef, es, rr, rc, om) (m, pa, pb, pc, vf, vs, tx, rd, ou) w) Q))))) ∧ (s0 = false → ((s0 = false → zW zm_227 124 [some (.ref 75), some (.int x1), none] [.int (0 : Int32)] p (zh K (code, rf, rs, bad, pr, pn, len, plc, (fin && true), ef, es, rr, rc, om) (m, pa, pb, pc, vf, vs, tx, rd, ou) w) Q) ∧ (s0 = true → (((fin && true) = false → zW zm_227 124 [some (.ref 75), some (.int x1), none] [.int (0 : Int32)] p (zh K (code, rf, rs, bad, pr, pn, len, plc, (fin && true), ef, es, rr, rc, om) (m, pa, pb, pc, vf, vs, tx, rd, ou) w) Q) ∧ ((fin && true) = true → zW zm_227 124 [some (.ref 75), some (.int x1), none] [.int (1 : Int32)] p (zh K (code, rf, rs, bad, pr, pn, len, plc, (fin && true), ef, es, rr, rc, om) (m, pa, pb, pc, vf, vs, tx, rd, ou) w) Q)))))))))) : zW zm_227 86 [some (.ref 75), some (.int x1), none] [.int (zbi s0)] p (zh K (code, rf, rs, bad, pr, pn, len, plc, fin, ef, es, rr, rc, om) (m, pa, pb, pc, vf, vs, tx, rd, ou) w) Q := by
  obtain ⟨h1, H⟩ := H
  refine zW_bh (zcmp .lt (Int32.ofNat rr) (4 : Int32)) 100 96 [some (.ref 75), some (.int x1), some (.int (zbi s0))] [.ref 75] 6 (fun f => rfl) (fun c => ?_) (fun c => ?_)
  · have c9 : rr < 4 := (of_decide_eq_true ((zcN_lt (a := rr) (b := 4) rfl rfl h1 (by decide)).symm.trans c))
    replace H := H.1 c9
    refine zW_gh 105 [some (.ref 75), some (.int x1), some (.int (zbi s0))] [.int (1 : Int32), .ref 75] 2 (fun f => rfl) ?_
    refine zW_cl rfl rfl rfl rfl rfl ((s229 (b := true)) ?_)
    change zW zm_227 108 [some (.ref 75), some (.int x1), some (.int (zbi s0))] [] p _ Q
    refine zW_bh (zcmp .eq (zbi s0) (0 : Int32)) 123 112 [some (.ref 75), some (.int x1), some (.int (zbi s0))] [] 2 (fun f => rfl) (fun c => ?_) (fun c => ?_)
    · have c9 : s0 = false := ((Bool.not_eq_true' _).mp ((zcB_eq _).symm.trans c))
      replace H := H.1 c9
      refine zW_gh 124 [some (.ref 75), some (.int x1), some (.int (zbi s0))] [.int (0 : Int32)] 1 (fun f => rfl) ?_
      refine zW_fg (L' := [some (.ref 75), some (.int x1), none]) (zle_s _ (zle_s _ (zle_n _ zle_nil))) ?_
      exact H
    · have c9 : s0 = true := ((Bool.not_eq_false' _).mp ((zcB_eq _).symm.trans c))
      replace H := H.2 c9
      refine zW_bh (zcmp .eq (zbi (fin && true)) (0 : Int32)) 123 119 [some (.ref 75), some (.int x1), some (.int (zbi s0))] [] 3 (fun f => rfl) (fun c => ?_) (fun c => ?_)
      · have c9 : (fin && true) = false := ((Bool.not_eq_true' _).mp ((zcB_eq _).symm.trans c))
        replace H := H.1 c9
        refine zW_gh 124 [some (.ref 75), some (.int x1), some (.int (zbi s0))] [.int (0 : Int32)] 1 (fun f => rfl) ?_
        refine zW_fg (L' := [some (.ref 75), some (.int x1), none]) (zle_s _ (zle_s _ (zle_n _ zle_nil))) ?_
        exact H
      · have c9 : (fin && true) = true := ((Bool.not_eq_false' _).mp ((zcB_eq _).symm.trans c))
        replace H := H.2 c9
        refine zW_gh 124 [some (.ref 75), some (.int x1), some (.int (zbi s0))] [.int (1 : Int32)] 2 (fun f => rfl) ?_
        refine zW_fg (L' := [some (.ref 75), some (.int x1), none]) (zle_s _ (zle_s _ (zle_n _ zle_nil))) ?_
        exact H
  · have c9 : 4 ≤ rr := (Nat.le_of_not_lt (of_decide_eq_false ((zcN_lt (a := rr) (b := 4) rfl rfl h1 (by decide)).symm.trans c)))
    replace H := H.2 c9
    refine zW_bh (zcmp .ne (zbi s0) (0 : Int32)) 104 100 [some (.ref 75), some (.int x1), some (.int (zbi s0))] [.ref 75] 2 (fun f => rfl) (fun c => ?_) (fun c => ?_)
    · have c9 : s0 = true := ((zcB_ne _).symm.trans c)
      replace H := H.1 c9
      refine zW_gh 105 [some (.ref 75), some (.int x1), some (.int (zbi s0))] [.int (0 : Int32), .ref 75] 1 (fun f => rfl) ?_
      refine zW_cl rfl rfl rfl rfl rfl ((s229 (b := false)) ?_)
      change zW zm_227 108 [some (.ref 75), some (.int x1), some (.int (zbi s0))] [] p _ Q
      refine zW_bh (zcmp .eq (zbi s0) (0 : Int32)) 123 112 [some (.ref 75), some (.int x1), some (.int (zbi s0))] [] 2 (fun f => rfl) (fun c => ?_) (fun c => ?_)
      · have c9 : s0 = false := ((Bool.not_eq_true' _).mp ((zcB_eq _).symm.trans c))
        replace H := H.1 c9
        refine zW_gh 124 [some (.ref 75), some (.int x1), some (.int (zbi s0))] [.int (0 : Int32)] 1 (fun f => rfl) ?_
        refine zW_fg (L' := [some (.ref 75), some (.int x1), none]) (zle_s _ (zle_s _ (zle_n _ zle_nil))) ?_
        exact H
      · have c9 : s0 = true := ((Bool.not_eq_false' _).mp ((zcB_eq _).symm.trans c))
        replace H := H.2 c9
        refine zW_bh (zcmp .eq (zbi (fin && false)) (0 : Int32)) 123 119 [some (.ref 75), some (.int x1), some (.int (zbi s0))] [] 3 (fun f => rfl) (fun c => ?_) (fun c => ?_)
        · have c9 : (fin && false) = false := ((Bool.not_eq_true' _).mp ((zcB_eq _).symm.trans c))
          replace H := H.1 c9
          refine zW_gh 124 [some (.ref 75), some (.int x1), some (.int (zbi s0))] [.int (0 : Int32)] 1 (fun f => rfl) ?_
          refine zW_fg (L' := [some (.ref 75), some (.int x1), none]) (zle_s _ (zle_s _ (zle_n _ zle_nil))) ?_
          exact H
        · have c9 : (fin && false) = true := ((Bool.not_eq_false' _).mp ((zcB_eq _).symm.trans c))
          replace H := H.2 c9
          refine zW_gh 124 [some (.ref 75), some (.int x1), some (.int (zbi s0))] [.int (1 : Int32)] 2 (fun f => rfl) ?_
          refine zW_fg (L' := [some (.ref 75), some (.int x1), none]) (zle_s _ (zle_s _ (zle_n _ zle_nil))) ?_
          exact H
    · have c9 : s0 = false := ((zcB_ne _).symm.trans c)
      replace H := H.2 c9
      refine zW_gh 105 [some (.ref 75), some (.int x1), some (.int (zbi s0))] [.int (1 : Int32), .ref 75] 2 (fun f => rfl) ?_
      refine zW_cl rfl rfl rfl rfl rfl ((s229 (b := true)) ?_)
      change zW zm_227 108 [some (.ref 75), some (.int x1), some (.int (zbi s0))] [] p _ Q
      refine zW_bh (zcmp .eq (zbi s0) (0 : Int32)) 123 112 [some (.ref 75), some (.int x1), some (.int (zbi s0))] [] 2 (fun f => rfl) (fun c => ?_) (fun c => ?_)
      · have c9 : s0 = false := ((Bool.not_eq_true' _).mp ((zcB_eq _).symm.trans c))
        replace H := H.1 c9
        refine zW_gh 124 [some (.ref 75), some (.int x1), some (.int (zbi s0))] [.int (0 : Int32)] 1 (fun f => rfl) ?_
        refine zW_fg (L' := [some (.ref 75), some (.int x1), none]) (zle_s _ (zle_s _ (zle_n _ zle_nil))) ?_
        exact H
      · have c9 : s0 = true := ((Bool.not_eq_false' _).mp ((zcB_eq _).symm.trans c))
        replace H := H.2 c9
        refine zW_bh (zcmp .eq (zbi (fin && true)) (0 : Int32)) 123 119 [some (.ref 75), some (.int x1), some (.int (zbi s0))] [] 3 (fun f => rfl) (fun c => ?_) (fun c => ?_)
        · have c9 : (fin && true) = false := ((Bool.not_eq_true' _).mp ((zcB_eq _).symm.trans c))
          replace H := H.1 c9
          refine zW_gh 124 [some (.ref 75), some (.int x1), some (.int (zbi s0))] [.int (0 : Int32)] 1 (fun f => rfl) ?_
          refine zW_fg (L' := [some (.ref 75), some (.int x1), none]) (zle_s _ (zle_s _ (zle_n _ zle_nil))) ?_
          exact H
        · have c9 : (fin && true) = true := ((Bool.not_eq_false' _).mp ((zcB_eq _).symm.trans c))
          replace H := H.2 c9
          refine zW_gh 124 [some (.ref 75), some (.int x1), some (.int (zbi s0))] [.int (1 : Int32)] 2 (fun f => rfl) ?_
          refine zW_fg (L' := [some (.ref 75), some (.int x1), none]) (zle_s _ (zle_s _ (zle_n _ zle_nil))) ?_
          exact H
set_option maxRecDepth 20000 in
theorem b227_124 {K : zKt} {code rf rs pr pn ef es : Int32} {bad fin : Bool} {len plc rr rc om : Nat} {m pa pb pc vf vs tx rd ou : Nat → Int32} {w : Nat → Int64} {p : Nat × Nat} {Q : zR → zH → Prop} {x1 : Int32} {s0 : Bool} (H : ((s0 = false → zW zm_227 56 [some (.ref 75), some (.int x1), some (.int (zbi s0))] [] p (zh K (code, rf, rs, bad, pr, pn, len, (plc + 0), fin, ef, es, rr, rc, om) (m, pa, pb, pc, vf, vs, tx, rd, ou) w) Q) ∧ (s0 = true → zW zm_227 56 [some (.ref 75), some (.int x1), some (.int (zbi s0))] [] p (zh K (code, rf, rs, bad, pr, pn, len, (plc + 1), fin, ef, es, rr, rc, om) (m, pa, pb, pc, vf, vs, tx, rd, ou) w) Q))) : zW zm_227 124 [some (.ref 75), some (.int x1), none] [.int (zbi s0)] p (zh K (code, rf, rs, bad, pr, pn, len, plc, fin, ef, es, rr, rc, om) (m, pa, pb, pc, vf, vs, tx, rd, ou) w) Q := by
  refine zW_bh (zcmp .eq (zbi s0) (0 : Int32)) 138 134 [some (.ref 75), some (.int x1), some (.int (zbi s0))] [.int (Int32.ofNat plc), .ref 75] 6 (fun f => rfl) (fun c => ?_) (fun c => ?_)
  · have c9 : s0 = false := ((Bool.not_eq_true' _).mp ((zcB_eq _).symm.trans c))
    replace H := H.1 c9
    refine zW_gh 140 [some (.ref 75), some (.int x1), some (.int (zbi s0))] [.int ((Int32.ofNat plc) + (0 : Int32)), .ref 75] 2 (fun f => rfl) ?_
    rw [show ((Int32.ofNat plc) + (0 : Int32)) = Int32.ofNat (plc + 0) from (zN_a rfl rfl)]
    refine zW_go (pc' := 143) (L' := [some (.ref 75), some (.int x1), some (.int (zbi s0))]) (st' := []) (h' := (va_up (zh K (code, rf, rs, bad, pr, pn, len, plc, fin, ef, es, rr, rc, om) (m, pa, pb, pc, vf, vs, tx, rd, ou) w) 75 (.inr (7, zfl (code, rf, rs, bad, pr, pn, len, (plc + 0), fin, ef, es, rr, rc, om))))) 1 (fun f => rfl) ?_
    refine zW_eq zu_75 ?_
    refine zW_gh 56 [some (.ref 75), some (.int x1), some (.int (zbi s0))] [] 1 (fun f => rfl) ?_
    exact H
  · have c9 : s0 = true := ((Bool.not_eq_false' _).mp ((zcB_eq _).symm.trans c))
    replace H := H.2 c9
    refine zW_gh 140 [some (.ref 75), some (.int x1), some (.int (zbi s0))] [.int ((Int32.ofNat plc) + (1 : Int32)), .ref 75] 3 (fun f => rfl) ?_
    rw [show ((Int32.ofNat plc) + (1 : Int32)) = Int32.ofNat (plc + 1) from (zN_a rfl rfl)]
    refine zW_go (pc' := 143) (L' := [some (.ref 75), some (.int x1), some (.int (zbi s0))]) (st' := []) (h' := (va_up (zh K (code, rf, rs, bad, pr, pn, len, plc, fin, ef, es, rr, rc, om) (m, pa, pb, pc, vf, vs, tx, rd, ou) w) 75 (.inr (7, zfl (code, rf, rs, bad, pr, pn, len, (plc + 1), fin, ef, es, rr, rc, om))))) 1 (fun f => rfl) ?_
    refine zW_eq zu_75 ?_
    refine zW_gh 56 [some (.ref 75), some (.int x1), some (.int (zbi s0))] [] 1 (fun f => rfl) ?_
    exact H
theorem b226 {K : zKt} {code rf rs pr pn ef es : Int32} {bad fin : Bool} {len plc rr rc om : Nat} {m pa pb pc vf vs tx rd ou : Nat → Int32} {w : Nat → Int64} {p : Nat × Nat} {Q : zR → zH → Prop} {a0 : Int32} (H : (((zisr a0) = true → ∀ k_a0, zrg k_a0 → a0 = Int32.ofNat k_a0 → zT zm_227 [.ref 75, .int (Int32.ofNat k_a0)] p (zh K ((0 : Int32), rf, rs, bad, pr, pn, len, plc, fin, ef, es, rr, rc, om) (m, pa, pb, pc, vf, vs, tx, rd, ou) w) (zK zm_226 23 [some (.ref 75), none] [] p Q)) ∧ ((zisr a0) = false → Q (.inl (some (.int (0 : Int32)))) (zh K ((1 : Int32), rf, rs, bad, pr, pn, len, plc, fin, ef, es, rr, rc, om) (m, pa, pb, pc, vf, vs, tx, rd, ou) w)))) : zT zm_226 [.ref 75, .int a0] p (zh K (code, rf, rs, bad, pr, pn, len, plc, fin, ef, es, rr, rc, om) (m, pa, pb, pc, vf, vs, tx, rd, ou) w) Q := by
  change zW zm_226 0 [some (.ref 75), some (.int a0)] [] p _ Q
  refine zW_gh 2 [some (.ref 75), some (.int a0)] [.int (0 : Int32), .ref 75] 2 (fun f => rfl) ?_
  refine zW_go (pc' := 5) (L' := [some (.ref 75), some (.int a0)]) (st' := []) (h' := (va_up (zh K (code, rf, rs, bad, pr, pn, len, plc, fin, ef, es, rr, rc, om) (m, pa, pb, pc, vf, vs, tx, rd, ou) w) 75 (.inr (7, zfl ((0 : Int32), rf, rs, bad, pr, pn, len, plc, fin, ef, es, rr, rc, om))))) 1 (fun f => rfl) ?_
  refine zW_eq zu_75 ?_
  refine zW_gh 6 [some (.ref 75), some (.int a0)] [.int a0] 1 (fun f => rfl) ?_
  refine zW_cl rfl rfl rfl rfl rfl (s143 ?_)
  change zW zm_226 9 [some (.ref 75), some (.int a0)] [.int (zbi (zisr a0))] p _ Q
  refine zW_bh (zcmp .ne (zbi (zisr a0)) (0 : Int32)) 18 12 [some (.ref 75), some (.int a0)] [] 1 (fun f => rfl) (fun c => ?_) (fun c => ?_)
  · have c9 : (zisr a0) = true := ((zcB_ne _).symm.trans c)
    replace H := H.1 c9
    obtain ⟨k_a0, h_k_a0, e_k_a0⟩ := zisr_n c9
    replace H := H k_a0 h_k_a0 e_k_a0
    subst e_k_a0
    refine zW_gh 20 [some (.ref 75), some (.int (Int32.ofNat k_a0))] [.int (Int32.ofNat k_a0), .ref 75] 2 (fun f => rfl) ?_
    refine zW_fg (L' := [some (.ref 75), none]) (zle_s _ (zle_n _ zle_nil)) ?_
    exact zW_cl rfl rfl rfl rfl rfl H
  · have c9 : (zisr a0) = false := ((zcB_ne _).symm.trans c)
    replace H := H.2 c9
    refine zW_gh 14 [some (.ref 75), some (.int a0)] [.int (1 : Int32), .ref 75] 2 (fun f => rfl) ?_
    refine zW_cl rfl rfl rfl rfl rfl (s142 ?_)
    change zW zm_226 17 [some (.ref 75), some (.int a0)] [.int (0 : Int32)] p _ Q
    exact zW_rh (some (.int (0 : Int32))) 1 (fun f => rfl) H
theorem b226_23 {K : zKt} {code rf rs pr pn ef es : Int32} {bad fin : Bool} {len plc rr rc om : Nat} {m pa pb pc vf vs tx rd ou : Nat → Int32} {w : Nat → Int64} {p : Nat × Nat} {Q : zR → zH → Prop} {rv : Bool} (H : ((rv = false → Q (.inl (some (.int (Int32.ofNat plc)))) (zh K (code, rf, rs, bad, pr, pn, len, plc, fin, ef, es, rr, rc, om) (m, pa, pb, pc, vf, vs, tx, rd, ou) w)) ∧ (rv = true → Q (.inl (some (.int (-1 : Int32)))) (zh K (code, rf, rs, bad, pr, pn, len, plc, fin, ef, es, rr, rc, om) (m, pa, pb, pc, vf, vs, tx, rd, ou) w)))) : zW zm_226 23 [some (.ref 75), none] [.int (zbi rv)] p (zh K (code, rf, rs, bad, pr, pn, len, plc, fin, ef, es, rr, rc, om) (m, pa, pb, pc, vf, vs, tx, rd, ou) w) Q := by
  refine zW_bh (zcmp .eq (zbi rv) (0 : Int32)) 30 26 [some (.ref 75), none] [] 1 (fun f => rfl) (fun c => ?_) (fun c => ?_)
  · have c9 : rv = false := ((Bool.not_eq_true' _).mp ((zcB_eq _).symm.trans c))
    replace H := H.1 c9
    refine zW_gh 34 [some (.ref 75), none] [.int (Int32.ofNat plc)] 2 (fun f => rfl) ?_
    exact zW_rh (some (.int (Int32.ofNat plc))) 1 (fun f => rfl) H
  · have c9 : rv = true := ((Bool.not_eq_false' _).mp ((zcB_eq _).symm.trans c))
    replace H := H.2 c9
    refine zW_gh 34 [some (.ref 75), none] [.int (-1 : Int32)] 2 (fun f => rfl) ?_
    exact zW_rh (some (.int (-1 : Int32))) 1 (fun f => rfl) H
set_option maxRecDepth 20000 in
theorem b239 {K : zKt} {code rf rs pr pn ef es : Int32} {bad fin : Bool} {len plc rr rc om : Nat} {m pa pb pc vf vs tx rd ou : Nat → Int32} {w : Nat → Int64} {p : Nat × Nat} {Q : zR → zH → Prop} {a0 a1 : Int32} (H : (((zslot a0) = true → ∀ k_a0, k_a0 < 3 → a0 = Int32.ofNat k_a0 → (((zisr a1) = true → ∀ k_a1, zrg k_a1 → a1 = Int32.ofNat k_a1 → zT zm_227 [.ref 75, .int (Int32.ofNat k_a1)] p (zh K ((0 : Int32), rf, rs, bad, pr, pn, len, plc, fin, ef, es, rr, rc, om) (m, pa, pb, pc, vf, vs, tx, rd, ou) w) (zK zm_239 36 [some (.ref 75), some (.int (Int32.ofNat k_a0)), some (.int (Int32.ofNat k_a1)), none, none] [] p Q)) ∧ ((zisr a1) = false → Q (.inl (some (.int (0 : Int32)))) (zh K ((2 : Int32), rf, rs, bad, pr, pn, len, plc, fin, ef, es, rr, rc, om) (m, pa, pb, pc, vf, vs, tx, rd, ou) w)))) ∧ ((zslot a0) = false → Q (.inl (some (.int (0 : Int32)))) (zh K ((1 : Int32), rf, rs, bad, pr, pn, len, plc, fin, ef, es, rr, rc, om) (m, pa, pb, pc, vf, vs, tx, rd, ou) w)))) : zT zm_239 [.ref 75, .int a0, .int a1] p (zh K (code, rf, rs, bad, pr, pn, len, plc, fin, ef, es, rr, rc, om) (m, pa, pb, pc, vf, vs, tx, rd, ou) w) Q := by
  change zW zm_239 0 [some (.ref 75), some (.int a0), some (.int a1), none, none] [] p _ Q
  refine zW_gh 2 [some (.ref 75), some (.int a0), some (.int a1), none, none] [.int (0 : Int32), .ref 75] 2 (fun f => rfl) ?_
  refine zW_go (pc' := 5) (L' := [some (.ref 75), some (.int a0), some (.int a1), none, none]) (st' := []) (h' := (va_up (zh K (code, rf, rs, bad, pr, pn, len, plc, fin, ef, es, rr, rc, om) (m, pa, pb, pc, vf, vs, tx, rd, ou) w) 75 (.inr (7, zfl ((0 : Int32), rf, rs, bad, pr, pn, len, plc, fin, ef, es, rr, rc, om))))) 1 (fun f => rfl) ?_
  refine zW_eq zu_75 ?_
  refine zW_gh 6 [some (.ref 75), some (.int a0), some (.int a1), none, none] [.int a0] 1 (fun f => rfl) ?_
  refine zW_cl rfl rfl rfl rfl rfl (s140 ?_)
  change zW zm_239 9 [some (.ref 75), some (.int a0), some (.int a1), none, none] [.int (zbi (zslot a0))] p _ Q
  refine zW_bh (zcmp .ne (zbi (zslot a0)) (0 : Int32)) 18 12 [some (.ref 75), some (.int a0), some (.int a1), none, none] [] 1 (fun f => rfl) (fun c => ?_) (fun c => ?_)
  · have c9 : (zslot a0) = true := ((zcB_ne _).symm.trans c)
    replace H := H.1 c9
    obtain ⟨k_a0, h_k_a0, e_k_a0⟩ := zslot_n c9
    replace H := H k_a0 h_k_a0 e_k_a0
    subst e_k_a0
    refine zW_gh 19 [some (.ref 75), some (.int (Int32.ofNat k_a0)), some (.int a1), none, none] [.int a1] 1 (fun f => rfl) ?_
    refine zW_cl rfl rfl rfl rfl rfl (s143 ?_)
    change zW zm_239 22 [some (.ref 75), some (.int (Int32.ofNat k_a0)), some (.int a1), none, none] [.int (zbi (zisr a1))] p _ Q
    refine zW_bh (zcmp .ne (zbi (zisr a1)) (0 : Int32)) 31 25 [some (.ref 75), some (.int (Int32.ofNat k_a0)), some (.int a1), none, none] [] 1 (fun f => rfl) (fun c => ?_) (fun c => ?_)
    · have c9 : (zisr a1) = true := ((zcB_ne _).symm.trans c)
      replace H := H.1 c9
      obtain ⟨k_a1, h_k_a1, e_k_a1⟩ := zisr_n c9
      replace H := H k_a1 h_k_a1 e_k_a1
      subst e_k_a1
      refine zW_gh 33 [some (.ref 75), some (.int (Int32.ofNat k_a0)), some (.int (Int32.ofNat k_a1)), none, none] [.int (Int32.ofNat k_a1), .ref 75] 2 (fun f => rfl) ?_
      exact zW_cl rfl rfl rfl rfl rfl H
    · have c9 : (zisr a1) = false := ((zcB_ne _).symm.trans c)
      replace H := H.2 c9
      refine zW_gh 27 [some (.ref 75), some (.int (Int32.ofNat k_a0)), some (.int a1), none, none] [.int (2 : Int32), .ref 75] 2 (fun f => rfl) ?_
      refine zW_cl rfl rfl rfl rfl rfl (s142 ?_)
      change zW zm_239 30 [some (.ref 75), some (.int (Int32.ofNat k_a0)), some (.int a1), none, none] [.int (0 : Int32)] p _ Q
      exact zW_rh (some (.int (0 : Int32))) 1 (fun f => rfl) H
  · have c9 : (zslot a0) = false := ((zcB_ne _).symm.trans c)
    replace H := H.2 c9
    refine zW_gh 14 [some (.ref 75), some (.int a0), some (.int a1), none, none] [.int (1 : Int32), .ref 75] 2 (fun f => rfl) ?_
    refine zW_cl rfl rfl rfl rfl rfl (s142 ?_)
    change zW zm_239 17 [some (.ref 75), some (.int a0), some (.int a1), none, none] [.int (0 : Int32)] p _ Q
    exact zW_rh (some (.int (0 : Int32))) 1 (fun f => rfl) H
set_option maxRecDepth 20000 in
theorem b239_36 {K : zKt} {code rf rs pr pn ef es : Int32} {bad fin : Bool} {len plc rr rc om : Nat} {m pa pb pc vf vs tx rd ou : Nat → Int32} {w : Nat → Int64} {p : Nat × Nat} {Q : zR → zH → Prop} {x1 x2 : Nat} {rv : Bool} (H : ((rv = true → zT zm_145 [.ref 75, .int ((1068 : Int32) * (Int32.ofNat x1)), .int (Int32.ofNat x2), .int (Int32.ofNat rr), .int (Int32.ofNat rc)] p (zh K (code, rf, rs, bad, pr, pn, len, plc, fin, ef, es, rr, rc, om) (m, pa, pb, pc, vf, vs, tx, rd, ou) w) (zK zm_239 63 [some (.ref 75), some (.int (Int32.ofNat x1)), none, none, none] [] p Q)) ∧ (rv = false → Q (.inl (some (.int (0 : Int32)))) (zh K ((3 : Int32), rf, rs, bad, pr, pn, len, plc, fin, ef, es, rr, rc, om) (m, pa, pb, pc, vf, vs, tx, rd, ou) w)))) : zW zm_239 36 [some (.ref 75), some (.int (Int32.ofNat x1)), some (.int (Int32.ofNat x2)), none, none] [.int (zbi rv)] p (zh K (code, rf, rs, bad, pr, pn, len, plc, fin, ef, es, rr, rc, om) (m, pa, pb, pc, vf, vs, tx, rd, ou) w) Q := by
  refine zW_bh (zcmp .ne (zbi rv) (0 : Int32)) 45 39 [some (.ref 75), some (.int (Int32.ofNat x1)), some (.int (Int32.ofNat x2)), none, none] [] 1 (fun f => rfl) (fun c => ?_) (fun c => ?_)
  · have c9 : rv = true := ((zcB_ne _).symm.trans c)
    replace H := H.1 c9
    refine zW_gh 60 [some (.ref 75), some (.int (Int32.ofNat x1)), some (.int (Int32.ofNat x2)), none, none] [.int (Int32.ofNat rc), .int (Int32.ofNat rr), .int (Int32.ofNat x2), .int ((1068 : Int32) * (Int32.ofNat x1)), .ref 75] 9 (fun f => rfl) ?_
    refine zW_fg (L' := [some (.ref 75), some (.int (Int32.ofNat x1)), none, none, none]) (zle_s _ (zle_s _ (zle_n _ (zle_s _ (zle_s _ zle_nil))))) ?_
    exact zW_cl rfl rfl rfl rfl rfl H
  · have c9 : rv = false := ((zcB_ne _).symm.trans c)
    replace H := H.2 c9
    refine zW_gh 41 [some (.ref 75), some (.int (Int32.ofNat x1)), some (.int (Int32.ofNat x2)), none, none] [.int (3 : Int32), .ref 75] 2 (fun f => rfl) ?_
    refine zW_cl rfl rfl rfl rfl rfl (s142 ?_)
    change zW zm_239 44 [some (.ref 75), some (.int (Int32.ofNat x1)), some (.int (Int32.ofNat x2)), none, none] [.int (0 : Int32)] p _ Q
    exact zW_rh (some (.int (0 : Int32))) 1 (fun f => rfl) H
set_option maxRecDepth 20000 in
theorem b239_63 {K : zKt} {code rf rs pr pn ef es : Int32} {bad fin : Bool} {len plc rr rc om : Nat} {m pa pb pc vf vs tx rd ou : Nat → Int32} {w : Nat → Int64} {p : Nat × Nat} {Q : zR → zH → Prop} {x1 : Nat} (H : zW zm_239 65 [some (.ref 75), some (.int (Int32.ofNat x1)), none, some (.int (Int32.ofNat 0)), none] [] p (zh K (code, rf, rs, bad, pr, pn, len, plc, fin, ef, es, rr, rc, om) (m, pa, pb, pc, vf, vs, tx, rd, ou) w) Q) : zW zm_239 63 [some (.ref 75), some (.int (Int32.ofNat x1)), none, none, none] [] p (zh K (code, rf, rs, bad, pr, pn, len, plc, fin, ef, es, rr, rc, om) (m, pa, pb, pc, vf, vs, tx, rd, ou) w) Q := by
  refine zW_gh 65 [some (.ref 75), some (.int (Int32.ofNat x1)), none, some (.int (0 : Int32)), none] [] 2 (fun f => rfl) ?_
  exact H
set_option maxRecDepth 20000 in
theorem b239_65 {K : zKt} {code rf rs pr pn ef es : Int32} {bad fin : Bool} {len plc rr rc om : Nat} {m pa pb pc vf vs tx rd ou : Nat → Int32} {w : Nat → Int64} {p : Nat × Nat} {Q : zR → zH → Prop} {x1 x3 : Nat} (H : (x3 < 2147483648 ∧ (rr < 2147483648 ∧ ((rr ≤ x3 → zT zm_146 [.ref 75, .int ((1068 : Int32) * (Int32.ofNat x1))] p (zh K (code, rf, rs, bad, pr, pn, len, plc, fin, ef, es, rr, rc, om) (m, pa, pb, pc, vf, vs, tx, rd, ou) w) (zK zm_239 151 [some (.ref 75), none, none, none, none] [] p Q)) ∧ (x3 < rr → zW zm_239 76 [some (.ref 75), some (.int (Int32.ofNat x1)), none, some (.int (Int32.ofNat x3)), some (.int (Int32.ofNat 0))] [] p (zh K (code, rf, rs, bad, pr, pn, len, plc, fin, ef, es, rr, rc, om) (m, pa, pb, pc, vf, vs, tx, rd, ou) w) Q))))) : zW zm_239 65 [some (.ref 75), some (.int (Int32.ofNat x1)), none, some (.int (Int32.ofNat x3)), none] [] p (zh K (code, rf, rs, bad, pr, pn, len, plc, fin, ef, es, rr, rc, om) (m, pa, pb, pc, vf, vs, tx, rd, ou) w) Q := by
  obtain ⟨h1, H⟩ := H
  obtain ⟨h2, H⟩ := H
  refine zW_bh (zcmp .ge (Int32.ofNat x3) (Int32.ofNat rr)) 142 73 [some (.ref 75), some (.int (Int32.ofNat x1)), none, some (.int (Int32.ofNat x3)), none] [] 4 (fun f => rfl) (fun c => ?_) (fun c => ?_)
  · have c9 : rr ≤ x3 := (of_decide_eq_true ((zcN_ge (a := x3) (b := rr) rfl rfl h1 h2).symm.trans c))
    replace H := H.1 c9
    refine zW_gh 148 [some (.ref 75), some (.int (Int32.ofNat x1)), none, some (.int (Int32.ofNat x3)), none] [.int ((1068 : Int32) * (Int32.ofNat x1)), .ref 75] 4 (fun f => rfl) ?_
    refine zW_fg (L' := [some (.ref 75), none, none, none, none]) (zle_s _ (zle_n _ (zle_s _ (zle_n _ (zle_s _ zle_nil))))) ?_
    exact zW_cl rfl rfl rfl rfl rfl H
  · have c9 : x3 < rr := (Nat.lt_of_not_le (of_decide_eq_false ((zcN_ge (a := x3) (b := rr) rfl rfl h1 h2).symm.trans c)))
    replace H := H.2 c9
    refine zW_gh 76 [some (.ref 75), some (.int (Int32.ofNat x1)), none, some (.int (Int32.ofNat x3)), some (.int (0 : Int32))] [] 2 (fun f => rfl) ?_
    exact H
set_option maxRecDepth 20000 in
theorem b239_151 {K : zKt} {code rf rs pr pn ef es : Int32} {bad fin : Bool} {len plc rr rc om : Nat} {m pa pb pc vf vs tx rd ou : Nat → Int32} {w : Nat → Int64} {p : Nat × Nat} {Q : zR → zH → Prop} (H : Q (.inl (some (.int (Int32.ofNat rr)))) (zh K (code, rf, rs, bad, pr, pn, 0, plc, fin, ef, es, rr, rc, om) (m, pa, pb, pc, vf, vs, tx, rd, ou) w)) : zW zm_239 151 [some (.ref 75), none, none, none, none] [] p (zh K (code, rf, rs, bad, pr, pn, len, plc, fin, ef, es, rr, rc, om) (m, pa, pb, pc, vf, vs, tx, rd, ou) w) Q := by
  refine zW_gh 153 [some (.ref 75), none, none, none, none] [.int (0 : Int32), .ref 75] 2 (fun f => rfl) ?_
  refine zW_go (pc' := 156) (L' := [some (.ref 75), none, none, none, none]) (st' := []) (h' := (va_up (zh K (code, rf, rs, bad, pr, pn, len, plc, fin, ef, es, rr, rc, om) (m, pa, pb, pc, vf, vs, tx, rd, ou) w) 75 (.inr (7, zfl (code, rf, rs, bad, pr, pn, 0, plc, fin, ef, es, rr, rc, om))))) 1 (fun f => rfl) ?_
  refine zW_eq zu_75 ?_
  refine zW_gh 160 [some (.ref 75), none, none, none, none] [.int (Int32.ofNat rr)] 2 (fun f => rfl) ?_
  exact zW_rh (some (.int (Int32.ofNat rr))) 1 (fun f => rfl) H
set_option maxRecDepth 20000 in
theorem b239_76 {K : zKt} {code rf rs pr pn ef es : Int32} {bad fin : Bool} {len plc rr rc om : Nat} {m pa pb pc vf vs tx rd ou : Nat → Int32} {w : Nat → Int64} {p : Nat × Nat} {Q : zR → zH → Prop} {x1 x3 x4 : Nat} (H : (x4 < 2147483648 ∧ (rc < 2147483648 ∧ ((rc ≤ x4 → zW zm_239 65 [some (.ref 75), some (.int (Int32.ofNat x1)), none, some (.int (Int32.ofNat (x3 + 1))), none] [] p (zh K (code, rf, rs, bad, pr, pn, len, plc, fin, ef, es, rr, rc, om) (m, pa, pb, pc, vf, vs, tx, rd, ou) w) Q) ∧ (x4 < rc → (((8 * x3) + (2 * x4)) < 32 ∧ ((((8 * x3) + (2 * x4)) + 1) < 32 ∧ (((((1068 * x1) + 4) + (8 * x3)) + (2 * x4)) + 1 < 5340 ∧ zW zm_239 76 [some (.ref 75), some (.int (Int32.ofNat x1)), none, some (.int (Int32.ofNat x3)), some (.int (Int32.ofNat (x4 + 1)))] [] p (zh K (code, rf, rs, bad, pr, pn, len, plc, fin, ef, es, rr, rc, om) ((va_up (va_up m ((((1068 * x1) + 4) + (8 * x3)) + (2 * x4)) (rd ((8 * x3) + (2 * x4)))) (((((1068 * x1) + 4) + (8 * x3)) + (2 * x4)) + 1) (rd (((8 * x3) + (2 * x4)) + 1))), pa, pb, pc, vf, vs, tx, rd, ou) w) Q)))))))) : zW zm_239 76 [some (.ref 75), some (.int (Int32.ofNat x1)), none, some (.int (Int32.ofNat x3)), some (.int (Int32.ofNat x4))] [] p (zh K (code, rf, rs, bad, pr, pn, len, plc, fin, ef, es, rr, rc, om) (m, pa, pb, pc, vf, vs, tx, rd, ou) w) Q := by
  obtain ⟨h1, H⟩ := H
  obtain ⟨h2, H⟩ := H
  refine zW_bh (zcmp .ge (Int32.ofNat x4) (Int32.ofNat rc)) 136 85 [some (.ref 75), some (.int (Int32.ofNat x1)), none, some (.int (Int32.ofNat x3)), some (.int (Int32.ofNat x4))] [] 4 (fun f => rfl) (fun c => ?_) (fun c => ?_)
  · have c9 : rc ≤ x4 := (of_decide_eq_true ((zcN_ge (a := x4) (b := rc) rfl rfl h1 h2).symm.trans c))
    replace H := H.1 c9
    refine zW_inc [some (.ref 75), some (.int (Int32.ofNat x1)), none, some (.int ((Int32.ofNat x3) + (1 : Int32))), some (.int (Int32.ofNat x4))] rfl rfl rfl ?_
    rw [show ((Int32.ofNat x3) + (1 : Int32)) = Int32.ofNat (x3 + 1) from (zN_a rfl rfl)]
    refine zW_gh 65 [some (.ref 75), some (.int (Int32.ofNat x1)), none, some (.int (Int32.ofNat (x3 + 1))), some (.int (Int32.ofNat x4))] [] 1 (fun f => rfl) ?_
    refine zW_fg (L' := [some (.ref 75), some (.int (Int32.ofNat x1)), none, some (.int (Int32.ofNat (x3 + 1))), none]) (zle_s _ (zle_s _ (zle_s _ (zle_s _ (zle_n _ zle_nil))))) ?_
    exact H
  · have c9 : x4 < rc := (Nat.lt_of_not_le (of_decide_eq_false ((zcN_ge (a := x4) (b := rc) rfl rfl h1 h2).symm.trans c)))
    replace H := H.2 c9
    refine zW_gh 94 [some (.ref 75), some (.int (Int32.ofNat x1)), none, some (.int (Int32.ofNat x3)), some (.int (Int32.ofNat x4))] [.int (Int32.ofNat x4), .int (Int32.ofNat x3), .int ((1068 : Int32) * (Int32.ofNat x1)), .ref 75] 6 (fun f => rfl) ?_
    refine zW_cl rfl rfl rfl rfl rfl (s151 ?_)
    change zW zm_239 97 [some (.ref 75), some (.int (Int32.ofNat x1)), none, some (.int (Int32.ofNat x3)), some (.int (Int32.ofNat x4))] [.int (((((1068 : Int32) * (Int32.ofNat x1)) + (4 : Int32)) + ((8 : Int32) * (Int32.ofNat x3))) + ((2 : Int32) * (Int32.ofNat x4))), .ref 75] p _ Q
    refine zW_gh 110 [some (.ref 75), some (.int (Int32.ofNat x1)), none, some (.int (Int32.ofNat x3)), some (.int (Int32.ofNat x4))] [.int (((8 : Int32) * (Int32.ofNat x3)) + ((2 : Int32) * (Int32.ofNat x4))), .ref 83, .int (((((1068 : Int32) * (Int32.ofNat x1)) + (4 : Int32)) + ((8 : Int32) * (Int32.ofNat x3))) + ((2 : Int32) * (Int32.ofNat x4))), .ref 75] 9 (fun f => rfl) ?_
    obtain ⟨h3, H⟩ := H
    refine zW_iald rfl (by decide) rfl (by decide) (zN_a (zN_m rfl rfl) (zN_m rfl rfl)) h3 ?_
    refine zW_gh 124 [some (.ref 75), some (.int (Int32.ofNat x1)), none, some (.int (Int32.ofNat x3)), some (.int (Int32.ofNat x4))] [.int (((8 : Int32) * (Int32.ofNat x3)) + ((2 : Int32) * (Int32.ofNat x4))), .ref 83, .int (rd ((8 * x3) + (2 * x4))), .int (((((1068 : Int32) * (Int32.ofNat x1)) + (4 : Int32)) + ((8 : Int32) * (Int32.ofNat x3))) + ((2 : Int32) * (Int32.ofNat x4))), .ref 75] 9 (fun f => rfl) ?_
    refine zW_gh 126 [some (.ref 75), some (.int (Int32.ofNat x1)), none, some (.int (Int32.ofNat x3)), some (.int (Int32.ofNat x4))] [.int ((((8 : Int32) * (Int32.ofNat x3)) + ((2 : Int32) * (Int32.ofNat x4))) + (1 : Int32)), .ref 83, .int (rd ((8 * x3) + (2 * x4))), .int (((((1068 : Int32) * (Int32.ofNat x1)) + (4 : Int32)) + ((8 : Int32) * (Int32.ofNat x3))) + ((2 : Int32) * (Int32.ofNat x4))), .ref 75] 2 (fun f => rfl) ?_
    obtain ⟨h4, H⟩ := H
    refine zW_iald rfl (by decide) rfl (by decide) (zN_a (zN_a (zN_m rfl rfl) (zN_m rfl rfl)) rfl) h4 ?_
    obtain ⟨h5, H⟩ := H
    refine zW_cl rfl rfl rfl rfl rfl ((s152 (zN_a (zN_a (zN_a (zN_m rfl rfl) rfl) (zN_m rfl rfl)) (zN_m rfl rfl))) h5 ?_)
    change zW zm_239 130 [some (.ref 75), some (.int (Int32.ofNat x1)), none, some (.int (Int32.ofNat x3)), some (.int (Int32.ofNat x4))] [] p _ Q
    refine zW_inc [some (.ref 75), some (.int (Int32.ofNat x1)), none, some (.int (Int32.ofNat x3)), some (.int ((Int32.ofNat x4) + (1 : Int32)))] rfl rfl rfl ?_
    rw [show ((Int32.ofNat x4) + (1 : Int32)) = Int32.ofNat (x4 + 1) from (zN_a rfl rfl)]
    refine zW_gh 76 [some (.ref 75), some (.int (Int32.ofNat x1)), none, some (.int (Int32.ofNat x3)), some (.int (Int32.ofNat (x4 + 1)))] [] 1 (fun f => rfl) ?_
    exact H
theorem b242 {K : zKt} {code rf rs pr pn ef es : Int32} {bad fin : Bool} {len plc rr rc om : Nat} {m pa pb pc vf vs tx rd ou : Nat → Int32} {w : Nat → Int64} {p : Nat × Nat} {Q : zR → zH → Prop} {a0 : Int32} (H : (((0 : Int32) ≤ a0 → ∀ k_a0, k_a0 < 2147483648 → a0 = Int32.ofNat k_a0 → ((0 ≤ k_a0 → zW zm_242 23 [some (.ref 75), none, some (.int (Int32.ofNat k_a0)), some (.int (Int32.ofNat 1))] [] p (zh K (code, rf, rs, bad, pr, pn, len, plc, fin, ef, es, rr, rc, om) (m, pa, pb, pc, vf, vs, tx, rd, ou) w) Q) ∧ (k_a0 < 0 → (∃ j1, (-(Int32.ofNat k_a0)) = Int32.ofNat j1 ∧ zW zm_242 23 [some (.ref 75), none, some (.int (Int32.ofNat j1)), some (.int (Int32.ofNat 1))] [] p (zh K (code, rf, rs, bad, pr, pn, len, plc, fin, ef, es, rr, rc, om) (m, pa, pb, pc, vf, vs, tx, rd, ou) w) Q)))) ∧ (¬ (0 : Int32) ≤ a0 → (om < 600 ∧ (((0 : Int32) ≤ a0 → ∀ k_a0, k_a0 < 2147483648 → a0 = Int32.ofNat k_a0 → zW zm_242 23 [some (.ref 75), none, some (.int (Int32.ofNat k_a0)), some (.int (Int32.ofNat 1))] [] p (zh K (code, rf, rs, bad, pr, pn, len, plc, fin, ef, es, rr, rc, (om + 1)) (m, pa, pb, pc, vf, vs, tx, rd, (va_up ou om (45 : Int32))) w) Q) ∧ (¬ (0 : Int32) ≤ a0 → (∃ j3, (-a0) = Int32.ofNat j3 ∧ zW zm_242 23 [some (.ref 75), none, some (.int (Int32.ofNat j3)), some (.int (Int32.ofNat 1))] [] p (zh K (code, rf, rs, bad, pr, pn, len, plc, fin, ef, es, rr, rc, (om + 1)) (m, pa, pb, pc, vf, vs, tx, rd, (va_up ou om (45 : Int32))) w) Q))))))) : zT zm_242 [.ref 75, .int a0] p (zh K (code, rf, rs, bad, pr, pn, len, plc, fin, ef, es, rr, rc, om) (m, pa, pb, pc, vf, vs, tx, rd, ou) w) Q := by
  change zW zm_242 0 [some (.ref 75), some (.int a0), none, none] [] p _ Q
  refine zW_bh (zcmp .ge a0 (0 : Int32)) 10 4 [some (.ref 75), some (.int a0), none, none] [] 2 (fun f => rfl) (fun c => ?_) (fun c => ?_)
  · have c9 : (0 : Int32) ≤ a0 := (of_decide_eq_true c)
    replace H := H.1 c9
    obtain ⟨k_a0, h_k_a0, e_k_a0⟩ := zNn' c9
    replace H := H k_a0 h_k_a0 e_k_a0
    subst e_k_a0
    refine zW_bh (zcmp .ge (Int32.ofNat k_a0) (0 : Int32)) 19 14 [some (.ref 75), some (.int (Int32.ofNat k_a0)), none, none] [] 2 (fun f => rfl) (fun c => ?_) (fun c => ?_)
    · have c9 : 0 ≤ k_a0 := (of_decide_eq_true ((zcN_ge (a := k_a0) (b := 0) rfl rfl h_k_a0 (by decide)).symm.trans c))
      replace H := H.1 c9
      refine zW_gh 23 [some (.ref 75), some (.int (Int32.ofNat k_a0)), some (.int (Int32.ofNat k_a0)), some (.int (1 : Int32))] [] 4 (fun f => rfl) ?_
      refine zW_fg (L' := [some (.ref 75), none, some (.int (Int32.ofNat k_a0)), some (.int (1 : Int32))]) (zle_s _ (zle_n _ (zle_s _ (zle_s _ zle_nil)))) ?_
      exact H
    · have c9 : k_a0 < 0 := (Nat.lt_of_not_le (of_decide_eq_false ((zcN_ge (a := k_a0) (b := 0) rfl rfl h_k_a0 (by decide)).symm.trans c)))
      replace H := H.2 c9
      refine zW_gh 23 [some (.ref 75), some (.int (Int32.ofNat k_a0)), some (.int (-(Int32.ofNat k_a0))), some (.int (1 : Int32))] [] 6 (fun f => rfl) ?_
      obtain ⟨j1, e_j1, H⟩ := H
      refine zW_fg (L' := [some (.ref 75), none, some (.int (-(Int32.ofNat k_a0))), some (.int (1 : Int32))]) (zle_s _ (zle_n _ (zle_s _ (zle_s _ zle_nil)))) ?_
      rw [show (-(Int32.ofNat k_a0)) = Int32.ofNat j1 from e_j1]
      exact H
  · have c9 : ¬ (0 : Int32) ≤ a0 := (of_decide_eq_false c)
    replace H := H.2 c9
    refine zW_gh 7 [some (.ref 75), some (.int a0), none, none] [.int (45 : Int32), .ref 75] 2 (fun f => rfl) ?_
    obtain ⟨h2, H⟩ := H
    refine zW_cl rfl rfl rfl rfl rfl (s241 h2 ?_)
    change zW zm_242 10 [some (.ref 75), some (.int a0), none, none] [] p _ Q
    refine zW_bh (zcmp .ge a0 (0 : Int32)) 19 14 [some (.ref 75), some (.int a0), none, none] [] 2 (fun f => rfl) (fun c => ?_) (fun c => ?_)
    · have c9 : (0 : Int32) ≤ a0 := (of_decide_eq_true c)
      replace H := H.1 c9
      obtain ⟨k_a0, h_k_a0, e_k_a0⟩ := zNn' c9
      replace H := H k_a0 h_k_a0 e_k_a0
      subst e_k_a0
      refine zW_gh 23 [some (.ref 75), some (.int (Int32.ofNat k_a0)), some (.int (Int32.ofNat k_a0)), some (.int (1 : Int32))] [] 4 (fun f => rfl) ?_
      refine zW_fg (L' := [some (.ref 75), none, some (.int (Int32.ofNat k_a0)), some (.int (1 : Int32))]) (zle_s _ (zle_n _ (zle_s _ (zle_s _ zle_nil)))) ?_
      exact H
    · have c9 : ¬ (0 : Int32) ≤ a0 := (of_decide_eq_false c)
      replace H := H.2 c9
      refine zW_gh 23 [some (.ref 75), some (.int a0), some (.int (-a0)), some (.int (1 : Int32))] [] 6 (fun f => rfl) ?_
      obtain ⟨j3, e_j3, H⟩ := H
      refine zW_fg (L' := [some (.ref 75), none, some (.int (-a0)), some (.int (1 : Int32))]) (zle_s _ (zle_n _ (zle_s _ (zle_s _ zle_nil)))) ?_
      rw [show (-a0) = Int32.ofNat j3 from e_j3]
      exact H
theorem b242_23 {K : zKt} {code rf rs pr pn ef es : Int32} {bad fin : Bool} {len plc rr rc om : Nat} {m pa pb pc vf vs tx rd ou : Nat → Int32} {w : Nat → Int64} {p : Nat × Nat} {Q : zR → zH → Prop} {x2 x3 : Nat} (H : (x2 < 2147483648 ∧ (x3 < 2147483648 ∧ ((x2 / 10) < 2147483648 ∧ (((x2 / 10) < x3 → zW zm_242 39 [some (.ref 75), none, some (.int (Int32.ofNat x2)), some (.int (Int32.ofNat x3))] [] p (zh K (code, rf, rs, bad, pr, pn, len, plc, fin, ef, es, rr, rc, om) (m, pa, pb, pc, vf, vs, tx, rd, ou) w) Q) ∧ (x3 ≤ (x2 / 10) → zW zm_242 23 [some (.ref 75), none, some (.int (Int32.ofNat x2)), some (.int (Int32.ofNat (x3 * 10)))] [] p (zh K (code, rf, rs, bad, pr, pn, len, plc, fin, ef, es, rr, rc, om) (m, pa, pb, pc, vf, vs, tx, rd, ou) w) Q)))))) : zW zm_242 23 [some (.ref 75), none, some (.int (Int32.ofNat x2)), some (.int (Int32.ofNat x3))] [] p (zh K (code, rf, rs, bad, pr, pn, len, plc, fin, ef, es, rr, rc, om) (m, pa, pb, pc, vf, vs, tx, rd, ou) w) Q := by
  refine zW_gh 27 [some (.ref 75), none, some (.int (Int32.ofNat x2)), some (.int (Int32.ofNat x3))] [.int (10 : Int32), .int (Int32.ofNat x2), .int (Int32.ofNat x3)] 3 (fun f => rfl) ?_
  obtain ⟨h1, H⟩ := H
  refine zW_idiv rfl (by decide) ?_
  rw [show ((Int32.ofNat x2) / (10 : Int32)) = Int32.ofNat (x2 / 10) from (zN_d rfl rfl h1 (by decide))]
  obtain ⟨h2, H⟩ := H
  obtain ⟨h3, H⟩ := H
  refine zW_bh (zcmp .gt (Int32.ofNat x3) (Int32.ofNat (x2 / 10))) 39 31 [some (.ref 75), none, some (.int (Int32.ofNat x2)), some (.int (Int32.ofNat x3))] [] 1 (fun f => rfl) (fun c => ?_) (fun c => ?_)
  · have c9 : (x2 / 10) < x3 := (of_decide_eq_true ((zcN_gt (a := x3) (b := (x2 / 10)) rfl rfl h2 h3).symm.trans c))
    replace H := H.1 c9
    exact H
  · have c9 : x3 ≤ (x2 / 10) := (Nat.le_of_not_lt (of_decide_eq_false ((zcN_gt (a := x3) (b := (x2 / 10)) rfl rfl h2 h3).symm.trans c)))
    replace H := H.2 c9
    refine zW_gh 36 [some (.ref 75), none, some (.int (Int32.ofNat x2)), some (.int ((Int32.ofNat x3) * (10 : Int32)))] [] 4 (fun f => rfl) ?_
    rw [show ((Int32.ofNat x3) * (10 : Int32)) = Int32.ofNat (x3 * 10) from (zN_m rfl rfl)]
    refine zW_gh 23 [some (.ref 75), none, some (.int (Int32.ofNat x2)), some (.int (Int32.ofNat (x3 * 10)))] [] 1 (fun f => rfl) ?_
    exact H
theorem b242_39 {K : zKt} {code rf rs pr pn ef es : Int32} {bad fin : Bool} {len plc rr rc om : Nat} {m pa pb pc vf vs tx rd ou : Nat → Int32} {w : Nat → Int64} {p : Nat × Nat} {Q : zR → zH → Prop} {x2 x3 : Nat} (H : (x3 < 2147483648 ∧ ((x3 ≤ 0 → Q (.inl none) (zh K (code, rf, rs, bad, pr, pn, len, plc, fin, ef, es, rr, rc, om) (m, pa, pb, pc, vf, vs, tx, rd, ou) w)) ∧ (0 < x3 → (0 < x3 ∧ (x2 < 2147483648 ∧ ((x2 / x3) < 2147483648 ∧ (om < 600 ∧ zW zm_242 39 [some (.ref 75), none, some (.int (Int32.ofNat x2)), some (.int (Int32.ofNat (x3 / 10)))] [] p (zh K (code, rf, rs, bad, pr, pn, len, plc, fin, ef, es, rr, rc, (om + 1)) (m, pa, pb, pc, vf, vs, tx, rd, (va_up ou om ((48 : Int32) + (Int32.ofNat ((x2 / x3) % 10))))) w) Q)))))))) : zW zm_242 39 [some (.ref 75), none, some (.int (Int32.ofNat x2)), some (.int (Int32.ofNat x3))] [] p (zh K (code, rf, rs, bad, pr, pn, len, plc, fin, ef, es, rr, rc, om) (m, pa, pb, pc, vf, vs, tx, rd, ou) w) Q := by
  obtain ⟨h1, H⟩ := H
  refine zW_bh (zcmp .le (Int32.ofNat x3) (0 : Int32)) 64 43 [some (.ref 75), none, some (.int (Int32.ofNat x2)), some (.int (Int32.ofNat x3))] [] 2 (fun f => rfl) (fun c => ?_) (fun c => ?_)
  · have c9 : x3 ≤ 0 := (of_decide_eq_true ((zcN_le (a := x3) (b := 0) rfl rfl h1 (by decide)).symm.trans c))
    replace H := H.1 c9
    exact zW_rh none 1 (fun f => rfl) H
  · have c9 : 0 < x3 := (Nat.lt_of_not_le (of_decide_eq_false ((zcN_le (a := x3) (b := 0) rfl rfl h1 (by decide)).symm.trans c)))
    replace H := H.2 c9
    refine zW_gh 48 [some (.ref 75), none, some (.int (Int32.ofNat x2)), some (.int (Int32.ofNat x3))] [.int (Int32.ofNat x3), .int (Int32.ofNat x2), .int (48 : Int32), .ref 75] 4 (fun f => rfl) ?_
    obtain ⟨h2, H⟩ := H
    obtain ⟨h3, H⟩ := H
    refine zW_idiv rfl (zN_nz rfl h2 h1) ?_
    rw [show ((Int32.ofNat x2) / (Int32.ofNat x3)) = Int32.ofNat (x2 / x3) from (zN_d rfl rfl h3 h1)]
    refine zW_gh 51 [some (.ref 75), none, some (.int (Int32.ofNat x2)), some (.int (Int32.ofNat x3))] [.int (10 : Int32), .int (Int32.ofNat (x2 / x3)), .int (48 : Int32), .ref 75] 1 (fun f => rfl) ?_
    obtain ⟨h4, H⟩ := H
    refine zW_irem rfl (by decide) ?_
    rw [show ((Int32.ofNat (x2 / x3)) - (Int32.ofNat (x2 / x3)) / (10 : Int32) * (10 : Int32)) = Int32.ofNat ((x2 / x3) % 10) from (zN_r rfl rfl h4 (by decide))]
    refine zW_gh 53 [some (.ref 75), none, some (.int (Int32.ofNat x2)), some (.int (Int32.ofNat x3))] [.int ((48 : Int32) + (Int32.ofNat ((x2 / x3) % 10))), .ref 75] 1 (fun f => rfl) ?_
    obtain ⟨h5, H⟩ := H
    refine zW_cl rfl rfl rfl rfl rfl (s241 h5 ?_)
    change zW zm_242 56 [some (.ref 75), none, some (.int (Int32.ofNat x2)), some (.int (Int32.ofNat x3))] [] p _ Q
    refine zW_gh 59 [some (.ref 75), none, some (.int (Int32.ofNat x2)), some (.int (Int32.ofNat x3))] [.int (10 : Int32), .int (Int32.ofNat x3)] 2 (fun f => rfl) ?_
    refine zW_idiv rfl (by decide) ?_
    rw [show ((Int32.ofNat x3) / (10 : Int32)) = Int32.ofNat (x3 / 10) from (zN_d rfl rfl h1 (by decide))]
    refine zW_gh 39 [some (.ref 75), none, some (.int (Int32.ofNat x2)), some (.int (Int32.ofNat (x3 / 10)))] [] 2 (fun f => rfl) ?_
    exact H
theorem b243 {K : zKt} {code rf rs pr pn ef es : Int32} {bad fin : Bool} {len plc rr rc om : Nat} {m pa pb pc vf vs tx rd ou : Nat → Int32} {w : Nat → Int64} {p : Nat × Nat} {Q : zR → zH → Prop} {a0 a1 : Int32} (H : ((¬ a0 = (0 : Int32) → zT zm_242 [.ref 75, .int a0] p (zh K (code, rf, rs, bad, pr, pn, len, plc, fin, ef, es, rr, rc, om) (m, pa, pb, pc, vf, vs, tx, rd, ou) w) (zK zm_243 13 [some (.ref 75), some (.int a0), some (.int a1)] [] p Q)) ∧ (a0 = (0 : Int32) → ((¬ a1 = (0 : Int32) → ((a0 = (0 : Int32) → ((¬ a1 = (-1 : Int32) → ((a1 = (0 : Int32) → ((a1 = (0 : Int32) → Q (.inl none) (zh K (code, rf, rs, bad, pr, pn, len, plc, fin, ef, es, rr, rc, om) (m, pa, pb, pc, vf, vs, tx, rd, ou) w)) ∧ (¬ a1 = (0 : Int32) → (om < 600 ∧ Q (.inl none) (zh K (code, rf, rs, bad, pr, pn, len, plc, fin, ef, es, rr, rc, (om + 1)) (m, pa, pb, pc, vf, vs, tx, rd, (va_up ou om (105 : Int32))) w))))) ∧ (¬ a1 = (0 : Int32) → ((a1 = (1 : Int32) → ((a1 = (0 : Int32) → Q (.inl none) (zh K (code, rf, rs, bad, pr, pn, len, plc, fin, ef, es, rr, rc, om) (m, pa, pb, pc, vf, vs, tx, rd, ou) w)) ∧ (¬ a1 = (0 : Int32) → (om < 600 ∧ Q (.inl none) (zh K (code, rf, rs, bad, pr, pn, len, plc, fin, ef, es, rr, rc, (om + 1)) (m, pa, pb, pc, vf, vs, tx, rd, (va_up ou om (105 : Int32))) w))))) ∧ (¬ a1 = (1 : Int32) → zT zm_242 [.ref 75, .int a1] p (zh K (code, rf, rs, bad, pr, pn, len, plc, fin, ef, es, rr, rc, om) (m, pa, pb, pc, vf, vs, tx, rd, ou) w) (zK zm_243 55 [some (.ref 75), none, some (.int a1)] [] p Q)))))) ∧ (a1 = (-1 : Int32) → (om < 600 ∧ ((a1 = (0 : Int32) → Q (.inl none) (zh K (code, rf, rs, bad, pr, pn, len, plc, fin, ef, es, rr, rc, (om + 1)) (m, pa, pb, pc, vf, vs, tx, rd, (va_up ou om (45 : Int32))) w)) ∧ (¬ a1 = (0 : Int32) → ((om + 1) < 600 ∧ Q (.inl none) (zh K (code, rf, rs, bad, pr, pn, len, plc, fin, ef, es, rr, rc, ((om + 1) + 1)) (m, pa, pb, pc, vf, vs, tx, rd, (va_up (va_up ou om (45 : Int32)) (om + 1) (105 : Int32))) w)))))))) ∧ (¬ a0 = (0 : Int32) → ((a1 ≤ (0 : Int32) → ((¬ a1 = (-1 : Int32) → ((a1 = (0 : Int32) → ((a1 = (0 : Int32) → Q (.inl none) (zh K (code, rf, rs, bad, pr, pn, len, plc, fin, ef, es, rr, rc, om) (m, pa, pb, pc, vf, vs, tx, rd, ou) w)) ∧ (¬ a1 = (0 : Int32) → (om < 600 ∧ Q (.inl none) (zh K (code, rf, rs, bad, pr, pn, len, plc, fin, ef, es, rr, rc, (om + 1)) (m, pa, pb, pc, vf, vs, tx, rd, (va_up ou om (105 : Int32))) w))))) ∧ (¬ a1 = (0 : Int32) → ((a1 = (1 : Int32) → ((a1 = (0 : Int32) → Q (.inl none) (zh K (code, rf, rs, bad, pr, pn, len, plc, fin, ef, es, rr, rc, om) (m, pa, pb, pc, vf, vs, tx, rd, ou) w)) ∧ (¬ a1 = (0 : Int32) → (om < 600 ∧ Q (.inl none) (zh K (code, rf, rs, bad, pr, pn, len, plc, fin, ef, es, rr, rc, (om + 1)) (m, pa, pb, pc, vf, vs, tx, rd, (va_up ou om (105 : Int32))) w))))) ∧ (¬ a1 = (1 : Int32) → zT zm_242 [.ref 75, .int a1] p (zh K (code, rf, rs, bad, pr, pn, len, plc, fin, ef, es, rr, rc, om) (m, pa, pb, pc, vf, vs, tx, rd, ou) w) (zK zm_243 55 [some (.ref 75), none, some (.int a1)] [] p Q)))))) ∧ (a1 = (-1 : Int32) → (om < 600 ∧ ((a1 = (0 : Int32) → Q (.inl none) (zh K (code, rf, rs, bad, pr, pn, len, plc, fin, ef, es, rr, rc, (om + 1)) (m, pa, pb, pc, vf, vs, tx, rd, (va_up ou om (45 : Int32))) w)) ∧ (¬ a1 = (0 : Int32) → ((om + 1) < 600 ∧ Q (.inl none) (zh K (code, rf, rs, bad, pr, pn, len, plc, fin, ef, es, rr, rc, ((om + 1) + 1)) (m, pa, pb, pc, vf, vs, tx, rd, (va_up (va_up ou om (45 : Int32)) (om + 1) (105 : Int32))) w)))))))) ∧ (¬ a1 ≤ (0 : Int32) → (om < 600 ∧ ((¬ a1 = (-1 : Int32) → ((a1 = (0 : Int32) → ((a1 = (0 : Int32) → Q (.inl none) (zh K (code, rf, rs, bad, pr, pn, len, plc, fin, ef, es, rr, rc, (om + 1)) (m, pa, pb, pc, vf, vs, tx, rd, (va_up ou om (43 : Int32))) w)) ∧ (¬ a1 = (0 : Int32) → ((om + 1) < 600 ∧ Q (.inl none) (zh K (code, rf, rs, bad, pr, pn, len, plc, fin, ef, es, rr, rc, ((om + 1) + 1)) (m, pa, pb, pc, vf, vs, tx, rd, (va_up (va_up ou om (43 : Int32)) (om + 1) (105 : Int32))) w))))) ∧ (¬ a1 = (0 : Int32) → ((a1 = (1 : Int32) → ((a1 = (0 : Int32) → Q (.inl none) (zh K (code, rf, rs, bad, pr, pn, len, plc, fin, ef, es, rr, rc, (om + 1)) (m, pa, pb, pc, vf, vs, tx, rd, (va_up ou om (43 : Int32))) w)) ∧ (¬ a1 = (0 : Int32) → ((om + 1) < 600 ∧ Q (.inl none) (zh K (code, rf, rs, bad, pr, pn, len, plc, fin, ef, es, rr, rc, ((om + 1) + 1)) (m, pa, pb, pc, vf, vs, tx, rd, (va_up (va_up ou om (43 : Int32)) (om + 1) (105 : Int32))) w))))) ∧ (¬ a1 = (1 : Int32) → zT zm_242 [.ref 75, .int a1] p (zh K (code, rf, rs, bad, pr, pn, len, plc, fin, ef, es, rr, rc, (om + 1)) (m, pa, pb, pc, vf, vs, tx, rd, (va_up ou om (43 : Int32))) w) (zK zm_243 55 [some (.ref 75), none, some (.int a1)] [] p Q)))))) ∧ (a1 = (-1 : Int32) → ((om + 1) < 600 ∧ ((a1 = (0 : Int32) → Q (.inl none) (zh K (code, rf, rs, bad, pr, pn, len, plc, fin, ef, es, rr, rc, ((om + 1) + 1)) (m, pa, pb, pc, vf, vs, tx, rd, (va_up (va_up ou om (43 : Int32)) (om + 1) (45 : Int32))) w)) ∧ (¬ a1 = (0 : Int32) → (((om + 1) + 1) < 600 ∧ Q (.inl none) (zh K (code, rf, rs, bad, pr, pn, len, plc, fin, ef, es, rr, rc, (((om + 1) + 1) + 1)) (m, pa, pb, pc, vf, vs, tx, rd, (va_up (va_up (va_up ou om (43 : Int32)) (om + 1) (45 : Int32)) ((om + 1) + 1) (105 : Int32))) w))))))))))))) ∧ (a1 = (0 : Int32) → zT zm_242 [.ref 75, .int a0] p (zh K (code, rf, rs, bad, pr, pn, len, plc, fin, ef, es, rr, rc, om) (m, pa, pb, pc, vf, vs, tx, rd, ou) w) (zK zm_243 13 [some (.ref 75), some (.int a0), some (.int a1)] [] p Q)))))) : zT zm_243 [.ref 75, .int a0, .int a1] p (zh K (code, rf, rs, bad, pr, pn, len, plc, fin, ef, es, rr, rc, om) (m, pa, pb, pc, vf, vs, tx, rd, ou) w) Q := by
  change zW zm_243 0 [some (.ref 75), some (.int a0), some (.int a1)] [] p _ Q
  refine zW_bh (zcmp .ne a0 (0 : Int32)) 8 4 [some (.ref 75), some (.int a0), some (.int a1)] [] 2 (fun f => rfl) (fun c => ?_) (fun c => ?_)
  · have c9 : ¬ a0 = (0 : Int32) := (by simpa [zcmp] using c)
    replace H := H.1 c9
    refine zW_gh 10 [some (.ref 75), some (.int a0), some (.int a1)] [.int a0, .ref 75] 2 (fun f => rfl) ?_
    exact zW_cl rfl rfl rfl rfl rfl H
  · have c9 : a0 = (0 : Int32) := (by simpa [zcmp] using c)
    replace H := H.2 c9
    refine zW_bh (zcmp .ne a1 (0 : Int32)) 13 8 [some (.ref 75), some (.int a0), some (.int a1)] [] 2 (fun f => rfl) (fun c => ?_) (fun c => ?_)
    · have c9 : ¬ a1 = (0 : Int32) := (by simpa [zcmp] using c)
      replace H := H.1 c9
      refine zW_bh (zcmp .eq a0 (0 : Int32)) 27 17 [some (.ref 75), some (.int a0), some (.int a1)] [] 2 (fun f => rfl) (fun c => ?_) (fun c => ?_)
      · have c9 : a0 = (0 : Int32) := (of_decide_eq_true c)
        replace H := H.1 c9
        refine zW_bh (zcmp .ne a1 (-1 : Int32)) 41 32 [some (.ref 75), some (.int a0), some (.int a1)] [] 3 (fun f => rfl) (fun c => ?_) (fun c => ?_)
        · have c9 : ¬ a1 = (-1 : Int32) := (by simpa [zcmp] using c)
          replace H := H.1 c9
          refine zW_bh (zcmp .eq a1 (0 : Int32)) 55 45 [some (.ref 75), some (.int a0), some (.int a1)] [] 2 (fun f => rfl) (fun c => ?_) (fun c => ?_)
          · have c9 : a1 = (0 : Int32) := (of_decide_eq_true c)
            replace H := H.1 c9
            refine zW_bh (zcmp .eq a1 (0 : Int32)) 65 59 [some (.ref 75), some (.int a0), some (.int a1)] [] 2 (fun f => rfl) (fun c => ?_) (fun c => ?_)
            · have c9 : a1 = (0 : Int32) := (of_decide_eq_true c)
              replace H := H.1 c9
              exact zW_rh none 1 (fun f => rfl) H
            · have c9 : ¬ a1 = (0 : Int32) := (of_decide_eq_false c)
              replace H := H.2 c9
              refine zW_gh 62 [some (.ref 75), some (.int a0), some (.int a1)] [.int (105 : Int32), .ref 75] 2 (fun f => rfl) ?_
              obtain ⟨h1, H⟩ := H
              refine zW_cl rfl rfl rfl rfl rfl (s241 h1 ?_)
              change zW zm_243 65 [some (.ref 75), some (.int a0), some (.int a1)] [] p _ Q
              exact zW_rh none 1 (fun f => rfl) H
          · have c9 : ¬ a1 = (0 : Int32) := (of_decide_eq_false c)
            replace H := H.2 c9
            refine zW_bh (zcmp .eq a1 (1 : Int32)) 55 50 [some (.ref 75), some (.int a0), some (.int a1)] [] 3 (fun f => rfl) (fun c => ?_) (fun c => ?_)
            · have c9 : a1 = (1 : Int32) := (of_decide_eq_true c)
              replace H := H.1 c9
              refine zW_bh (zcmp .eq a1 (0 : Int32)) 65 59 [some (.ref 75), some (.int a0), some (.int a1)] [] 2 (fun f => rfl) (fun c => ?_) (fun c => ?_)
              · have c9 : a1 = (0 : Int32) := (of_decide_eq_true c)
                replace H := H.1 c9
                exact zW_rh none 1 (fun f => rfl) H
              · have c9 : ¬ a1 = (0 : Int32) := (of_decide_eq_false c)
                replace H := H.2 c9
                refine zW_gh 62 [some (.ref 75), some (.int a0), some (.int a1)] [.int (105 : Int32), .ref 75] 2 (fun f => rfl) ?_
                obtain ⟨h2, H⟩ := H
                refine zW_cl rfl rfl rfl rfl rfl (s241 h2 ?_)
                change zW zm_243 65 [some (.ref 75), some (.int a0), some (.int a1)] [] p _ Q
                exact zW_rh none 1 (fun f => rfl) H
            · have c9 : ¬ a1 = (1 : Int32) := (of_decide_eq_false c)
              replace H := H.2 c9
              refine zW_gh 52 [some (.ref 75), some (.int a0), some (.int a1)] [.int a1, .ref 75] 2 (fun f => rfl) ?_
              refine zW_fg (L' := [some (.ref 75), none, some (.int a1)]) (zle_s _ (zle_n _ (zle_s _ zle_nil))) ?_
              exact zW_cl rfl rfl rfl rfl rfl H
        · have c9 : a1 = (-1 : Int32) := (by simpa [zcmp] using c)
          replace H := H.2 c9
          refine zW_gh 35 [some (.ref 75), some (.int a0), some (.int a1)] [.int (45 : Int32), .ref 75] 2 (fun f => rfl) ?_
          obtain ⟨h3, H⟩ := H
          refine zW_cl rfl rfl rfl rfl rfl (s241 h3 ?_)
          change zW zm_243 38 [some (.ref 75), some (.int a0), some (.int a1)] [] p _ Q
          refine zW_bh (zcmp .eq a1 (0 : Int32)) 65 59 [some (.ref 75), some (.int a0), some (.int a1)] [] 3 (fun f => rfl) (fun c => ?_) (fun c => ?_)
          · have c9 : a1 = (0 : Int32) := (of_decide_eq_true c)
            replace H := H.1 c9
            exact zW_rh none 1 (fun f => rfl) H
          · have c9 : ¬ a1 = (0 : Int32) := (of_decide_eq_false c)
            replace H := H.2 c9
            refine zW_gh 62 [some (.ref 75), some (.int a0), some (.int a1)] [.int (105 : Int32), .ref 75] 2 (fun f => rfl) ?_
            obtain ⟨h4, H⟩ := H
            refine zW_cl rfl rfl rfl rfl rfl (s241 h4 ?_)
            change zW zm_243 65 [some (.ref 75), some (.int a0), some (.int a1)] [] p _ Q
            exact zW_rh none 1 (fun f => rfl) H
      · have c9 : ¬ a0 = (0 : Int32) := (of_decide_eq_false c)
        replace H := H.2 c9
        refine zW_bh (zcmp .le a1 (0 : Int32)) 27 21 [some (.ref 75), some (.int a0), some (.int a1)] [] 2 (fun f => rfl) (fun c => ?_) (fun c => ?_)
        · have c9 : a1 ≤ (0 : Int32) := (of_decide_eq_true c)
          replace H := H.1 c9
          refine zW_bh (zcmp .ne a1 (-1 : Int32)) 41 32 [some (.ref 75), some (.int a0), some (.int a1)] [] 3 (fun f => rfl) (fun c => ?_) (fun c => ?_)
          · have c9 : ¬ a1 = (-1 : Int32) := (by simpa [zcmp] using c)
            replace H := H.1 c9
            refine zW_bh (zcmp .eq a1 (0 : Int32)) 55 45 [some (.ref 75), some (.int a0), some (.int a1)] [] 2 (fun f => rfl) (fun c => ?_) (fun c => ?_)
            · have c9 : a1 = (0 : Int32) := (of_decide_eq_true c)
              replace H := H.1 c9
              refine zW_bh (zcmp .eq a1 (0 : Int32)) 65 59 [some (.ref 75), some (.int a0), some (.int a1)] [] 2 (fun f => rfl) (fun c => ?_) (fun c => ?_)
              · have c9 : a1 = (0 : Int32) := (of_decide_eq_true c)
                replace H := H.1 c9
                exact zW_rh none 1 (fun f => rfl) H
              · have c9 : ¬ a1 = (0 : Int32) := (of_decide_eq_false c)
                replace H := H.2 c9
                refine zW_gh 62 [some (.ref 75), some (.int a0), some (.int a1)] [.int (105 : Int32), .ref 75] 2 (fun f => rfl) ?_
                obtain ⟨h5, H⟩ := H
                refine zW_cl rfl rfl rfl rfl rfl (s241 h5 ?_)
                change zW zm_243 65 [some (.ref 75), some (.int a0), some (.int a1)] [] p _ Q
                exact zW_rh none 1 (fun f => rfl) H
            · have c9 : ¬ a1 = (0 : Int32) := (of_decide_eq_false c)
              replace H := H.2 c9
              refine zW_bh (zcmp .eq a1 (1 : Int32)) 55 50 [some (.ref 75), some (.int a0), some (.int a1)] [] 3 (fun f => rfl) (fun c => ?_) (fun c => ?_)
              · have c9 : a1 = (1 : Int32) := (of_decide_eq_true c)
                replace H := H.1 c9
                refine zW_bh (zcmp .eq a1 (0 : Int32)) 65 59 [some (.ref 75), some (.int a0), some (.int a1)] [] 2 (fun f => rfl) (fun c => ?_) (fun c => ?_)
                · have c9 : a1 = (0 : Int32) := (of_decide_eq_true c)
                  replace H := H.1 c9
                  exact zW_rh none 1 (fun f => rfl) H
                · have c9 : ¬ a1 = (0 : Int32) := (of_decide_eq_false c)
                  replace H := H.2 c9
                  refine zW_gh 62 [some (.ref 75), some (.int a0), some (.int a1)] [.int (105 : Int32), .ref 75] 2 (fun f => rfl) ?_
                  obtain ⟨h6, H⟩ := H
                  refine zW_cl rfl rfl rfl rfl rfl (s241 h6 ?_)
                  change zW zm_243 65 [some (.ref 75), some (.int a0), some (.int a1)] [] p _ Q
                  exact zW_rh none 1 (fun f => rfl) H
              · have c9 : ¬ a1 = (1 : Int32) := (of_decide_eq_false c)
                replace H := H.2 c9
                refine zW_gh 52 [some (.ref 75), some (.int a0), some (.int a1)] [.int a1, .ref 75] 2 (fun f => rfl) ?_
                refine zW_fg (L' := [some (.ref 75), none, some (.int a1)]) (zle_s _ (zle_n _ (zle_s _ zle_nil))) ?_
                exact zW_cl rfl rfl rfl rfl rfl H
          · have c9 : a1 = (-1 : Int32) := (by simpa [zcmp] using c)
            replace H := H.2 c9
            refine zW_gh 35 [some (.ref 75), some (.int a0), some (.int a1)] [.int (45 : Int32), .ref 75] 2 (fun f => rfl) ?_
            obtain ⟨h7, H⟩ := H
            refine zW_cl rfl rfl rfl rfl rfl (s241 h7 ?_)
            change zW zm_243 38 [some (.ref 75), some (.int a0), some (.int a1)] [] p _ Q
            refine zW_bh (zcmp .eq a1 (0 : Int32)) 65 59 [some (.ref 75), some (.int a0), some (.int a1)] [] 3 (fun f => rfl) (fun c => ?_) (fun c => ?_)
            · have c9 : a1 = (0 : Int32) := (of_decide_eq_true c)
              replace H := H.1 c9
              exact zW_rh none 1 (fun f => rfl) H
            · have c9 : ¬ a1 = (0 : Int32) := (of_decide_eq_false c)
              replace H := H.2 c9
              refine zW_gh 62 [some (.ref 75), some (.int a0), some (.int a1)] [.int (105 : Int32), .ref 75] 2 (fun f => rfl) ?_
              obtain ⟨h8, H⟩ := H
              refine zW_cl rfl rfl rfl rfl rfl (s241 h8 ?_)
              change zW zm_243 65 [some (.ref 75), some (.int a0), some (.int a1)] [] p _ Q
              exact zW_rh none 1 (fun f => rfl) H
        · have c9 : ¬ a1 ≤ (0 : Int32) := (of_decide_eq_false c)
          replace H := H.2 c9
          refine zW_gh 24 [some (.ref 75), some (.int a0), some (.int a1)] [.int (43 : Int32), .ref 75] 2 (fun f => rfl) ?_
          obtain ⟨h9, H⟩ := H
          refine zW_cl rfl rfl rfl rfl rfl (s241 h9 ?_)
          change zW zm_243 27 [some (.ref 75), some (.int a0), some (.int a1)] [] p _ Q
          refine zW_bh (zcmp .ne a1 (-1 : Int32)) 41 32 [some (.ref 75), some (.int a0), some (.int a1)] [] 3 (fun f => rfl) (fun c => ?_) (fun c => ?_)
          · have c9 : ¬ a1 = (-1 : Int32) := (by simpa [zcmp] using c)
            replace H := H.1 c9
            refine zW_bh (zcmp .eq a1 (0 : Int32)) 55 45 [some (.ref 75), some (.int a0), some (.int a1)] [] 2 (fun f => rfl) (fun c => ?_) (fun c => ?_)
            · have c9 : a1 = (0 : Int32) := (of_decide_eq_true c)
              replace H := H.1 c9
              refine zW_bh (zcmp .eq a1 (0 : Int32)) 65 59 [some (.ref 75), some (.int a0), some (.int a1)] [] 2 (fun f => rfl) (fun c => ?_) (fun c => ?_)
              · have c9 : a1 = (0 : Int32) := (of_decide_eq_true c)
                replace H := H.1 c9
                exact zW_rh none 1 (fun f => rfl) H
              · have c9 : ¬ a1 = (0 : Int32) := (of_decide_eq_false c)
                replace H := H.2 c9
                refine zW_gh 62 [some (.ref 75), some (.int a0), some (.int a1)] [.int (105 : Int32), .ref 75] 2 (fun f => rfl) ?_
                obtain ⟨h10, H⟩ := H
                refine zW_cl rfl rfl rfl rfl rfl (s241 h10 ?_)
                change zW zm_243 65 [some (.ref 75), some (.int a0), some (.int a1)] [] p _ Q
                exact zW_rh none 1 (fun f => rfl) H
            · have c9 : ¬ a1 = (0 : Int32) := (of_decide_eq_false c)
              replace H := H.2 c9
              refine zW_bh (zcmp .eq a1 (1 : Int32)) 55 50 [some (.ref 75), some (.int a0), some (.int a1)] [] 3 (fun f => rfl) (fun c => ?_) (fun c => ?_)
              · have c9 : a1 = (1 : Int32) := (of_decide_eq_true c)
                replace H := H.1 c9
                refine zW_bh (zcmp .eq a1 (0 : Int32)) 65 59 [some (.ref 75), some (.int a0), some (.int a1)] [] 2 (fun f => rfl) (fun c => ?_) (fun c => ?_)
                · have c9 : a1 = (0 : Int32) := (of_decide_eq_true c)
                  replace H := H.1 c9
                  exact zW_rh none 1 (fun f => rfl) H
                · have c9 : ¬ a1 = (0 : Int32) := (of_decide_eq_false c)
                  replace H := H.2 c9
                  refine zW_gh 62 [some (.ref 75), some (.int a0), some (.int a1)] [.int (105 : Int32), .ref 75] 2 (fun f => rfl) ?_
                  obtain ⟨h11, H⟩ := H
                  refine zW_cl rfl rfl rfl rfl rfl (s241 h11 ?_)
                  change zW zm_243 65 [some (.ref 75), some (.int a0), some (.int a1)] [] p _ Q
                  exact zW_rh none 1 (fun f => rfl) H
              · have c9 : ¬ a1 = (1 : Int32) := (of_decide_eq_false c)
                replace H := H.2 c9
                refine zW_gh 52 [some (.ref 75), some (.int a0), some (.int a1)] [.int a1, .ref 75] 2 (fun f => rfl) ?_
                refine zW_fg (L' := [some (.ref 75), none, some (.int a1)]) (zle_s _ (zle_n _ (zle_s _ zle_nil))) ?_
                exact zW_cl rfl rfl rfl rfl rfl H
          · have c9 : a1 = (-1 : Int32) := (by simpa [zcmp] using c)
            replace H := H.2 c9
            refine zW_gh 35 [some (.ref 75), some (.int a0), some (.int a1)] [.int (45 : Int32), .ref 75] 2 (fun f => rfl) ?_
            obtain ⟨h12, H⟩ := H
            refine zW_cl rfl rfl rfl rfl rfl (s241 h12 ?_)
            change zW zm_243 38 [some (.ref 75), some (.int a0), some (.int a1)] [] p _ Q
            refine zW_bh (zcmp .eq a1 (0 : Int32)) 65 59 [some (.ref 75), some (.int a0), some (.int a1)] [] 3 (fun f => rfl) (fun c => ?_) (fun c => ?_)
            · have c9 : a1 = (0 : Int32) := (of_decide_eq_true c)
              replace H := H.1 c9
              exact zW_rh none 1 (fun f => rfl) H
            · have c9 : ¬ a1 = (0 : Int32) := (of_decide_eq_false c)
              replace H := H.2 c9
              refine zW_gh 62 [some (.ref 75), some (.int a0), some (.int a1)] [.int (105 : Int32), .ref 75] 2 (fun f => rfl) ?_
              obtain ⟨h13, H⟩ := H
              refine zW_cl rfl rfl rfl rfl rfl (s241 h13 ?_)
              change zW zm_243 65 [some (.ref 75), some (.int a0), some (.int a1)] [] p _ Q
              exact zW_rh none 1 (fun f => rfl) H
    · have c9 : a1 = (0 : Int32) := (by simpa [zcmp] using c)
      replace H := H.2 c9
      refine zW_gh 10 [some (.ref 75), some (.int a0), some (.int a1)] [.int a0, .ref 75] 2 (fun f => rfl) ?_
      exact zW_cl rfl rfl rfl rfl rfl H
theorem b243_13 {K : zKt} {code rf rs pr pn ef es : Int32} {bad fin : Bool} {len plc rr rc om : Nat} {m pa pb pc vf vs tx rd ou : Nat → Int32} {w : Nat → Int64} {p : Nat × Nat} {Q : zR → zH → Prop} {x1 x2 : Int32} (H : ((x1 = (0 : Int32) → ((¬ x2 = (-1 : Int32) → ((x2 = (0 : Int32) → ((x2 = (0 : Int32) → Q (.inl none) (zh K (code, rf, rs, bad, pr, pn, len, plc, fin, ef, es, rr, rc, om) (m, pa, pb, pc, vf, vs, tx, rd, ou) w)) ∧ (¬ x2 = (0 : Int32) → (om < 600 ∧ Q (.inl none) (zh K (code, rf, rs, bad, pr, pn, len, plc, fin, ef, es, rr, rc, (om + 1)) (m, pa, pb, pc, vf, vs, tx, rd, (va_up ou om (105 : Int32))) w))))) ∧ (¬ x2 = (0 : Int32) → ((x2 = (1 : Int32) → ((x2 = (0 : Int32) → Q (.inl none) (zh K (code, rf, rs, bad, pr, pn, len, plc, fin, ef, es, rr, rc, om) (m, pa, pb, pc, vf, vs, tx, rd, ou) w)) ∧ (¬ x2 = (0 : Int32) → (om < 600 ∧ Q (.inl none) (zh K (code, rf, rs, bad, pr, pn, len, plc, fin, ef, es, rr, rc, (om + 1)) (m, pa, pb, pc, vf, vs, tx, rd, (va_up ou om (105 : Int32))) w))))) ∧ (¬ x2 = (1 : Int32) → zT zm_242 [.ref 75, .int x2] p (zh K (code, rf, rs, bad, pr, pn, len, plc, fin, ef, es, rr, rc, om) (m, pa, pb, pc, vf, vs, tx, rd, ou) w) (zK zm_243 55 [some (.ref 75), none, some (.int x2)] [] p Q)))))) ∧ (x2 = (-1 : Int32) → (om < 600 ∧ ((x2 = (0 : Int32) → Q (.inl none) (zh K (code, rf, rs, bad, pr, pn, len, plc, fin, ef, es, rr, rc, (om + 1)) (m, pa, pb, pc, vf, vs, tx, rd, (va_up ou om (45 : Int32))) w)) ∧ (¬ x2 = (0 : Int32) → ((om + 1) < 600 ∧ Q (.inl none) (zh K (code, rf, rs, bad, pr, pn, len, plc, fin, ef, es, rr, rc, ((om + 1) + 1)) (m, pa, pb, pc, vf, vs, tx, rd, (va_up (va_up ou om (45 : Int32)) (om + 1) (105 : Int32))) w)))))))) ∧ (¬ x1 = (0 : Int32) → ((x2 ≤ (0 : Int32) → ((¬ x2 = (-1 : Int32) → ((x2 = (0 : Int32) → ((x2 = (0 : Int32) → Q (.inl none) (zh K (code, rf, rs, bad, pr, pn, len, plc, fin, ef, es, rr, rc, om) (m, pa, pb, pc, vf, vs, tx, rd, ou) w)) ∧ (¬ x2 = (0 : Int32) → (om < 600 ∧ Q (.inl none) (zh K (code, rf, rs, bad, pr, pn, len, plc, fin, ef, es, rr, rc, (om + 1)) (m, pa, pb, pc, vf, vs, tx, rd, (va_up ou om (105 : Int32))) w))))) ∧ (¬ x2 = (0 : Int32) → ((x2 = (1 : Int32) → ((x2 = (0 : Int32) → Q (.inl none) (zh K (code, rf, rs, bad, pr, pn, len, plc, fin, ef, es, rr, rc, om) (m, pa, pb, pc, vf, vs, tx, rd, ou) w)) ∧ (¬ x2 = (0 : Int32) → (om < 600 ∧ Q (.inl none) (zh K (code, rf, rs, bad, pr, pn, len, plc, fin, ef, es, rr, rc, (om + 1)) (m, pa, pb, pc, vf, vs, tx, rd, (va_up ou om (105 : Int32))) w))))) ∧ (¬ x2 = (1 : Int32) → zT zm_242 [.ref 75, .int x2] p (zh K (code, rf, rs, bad, pr, pn, len, plc, fin, ef, es, rr, rc, om) (m, pa, pb, pc, vf, vs, tx, rd, ou) w) (zK zm_243 55 [some (.ref 75), none, some (.int x2)] [] p Q)))))) ∧ (x2 = (-1 : Int32) → (om < 600 ∧ ((x2 = (0 : Int32) → Q (.inl none) (zh K (code, rf, rs, bad, pr, pn, len, plc, fin, ef, es, rr, rc, (om + 1)) (m, pa, pb, pc, vf, vs, tx, rd, (va_up ou om (45 : Int32))) w)) ∧ (¬ x2 = (0 : Int32) → ((om + 1) < 600 ∧ Q (.inl none) (zh K (code, rf, rs, bad, pr, pn, len, plc, fin, ef, es, rr, rc, ((om + 1) + 1)) (m, pa, pb, pc, vf, vs, tx, rd, (va_up (va_up ou om (45 : Int32)) (om + 1) (105 : Int32))) w)))))))) ∧ (¬ x2 ≤ (0 : Int32) → (om < 600 ∧ ((¬ x2 = (-1 : Int32) → ((x2 = (0 : Int32) → ((x2 = (0 : Int32) → Q (.inl none) (zh K (code, rf, rs, bad, pr, pn, len, plc, fin, ef, es, rr, rc, (om + 1)) (m, pa, pb, pc, vf, vs, tx, rd, (va_up ou om (43 : Int32))) w)) ∧ (¬ x2 = (0 : Int32) → ((om + 1) < 600 ∧ Q (.inl none) (zh K (code, rf, rs, bad, pr, pn, len, plc, fin, ef, es, rr, rc, ((om + 1) + 1)) (m, pa, pb, pc, vf, vs, tx, rd, (va_up (va_up ou om (43 : Int32)) (om + 1) (105 : Int32))) w))))) ∧ (¬ x2 = (0 : Int32) → ((x2 = (1 : Int32) → ((x2 = (0 : Int32) → Q (.inl none) (zh K (code, rf, rs, bad, pr, pn, len, plc, fin, ef, es, rr, rc, (om + 1)) (m, pa, pb, pc, vf, vs, tx, rd, (va_up ou om (43 : Int32))) w)) ∧ (¬ x2 = (0 : Int32) → ((om + 1) < 600 ∧ Q (.inl none) (zh K (code, rf, rs, bad, pr, pn, len, plc, fin, ef, es, rr, rc, ((om + 1) + 1)) (m, pa, pb, pc, vf, vs, tx, rd, (va_up (va_up ou om (43 : Int32)) (om + 1) (105 : Int32))) w))))) ∧ (¬ x2 = (1 : Int32) → zT zm_242 [.ref 75, .int x2] p (zh K (code, rf, rs, bad, pr, pn, len, plc, fin, ef, es, rr, rc, (om + 1)) (m, pa, pb, pc, vf, vs, tx, rd, (va_up ou om (43 : Int32))) w) (zK zm_243 55 [some (.ref 75), none, some (.int x2)] [] p Q)))))) ∧ (x2 = (-1 : Int32) → ((om + 1) < 600 ∧ ((x2 = (0 : Int32) → Q (.inl none) (zh K (code, rf, rs, bad, pr, pn, len, plc, fin, ef, es, rr, rc, ((om + 1) + 1)) (m, pa, pb, pc, vf, vs, tx, rd, (va_up (va_up ou om (43 : Int32)) (om + 1) (45 : Int32))) w)) ∧ (¬ x2 = (0 : Int32) → (((om + 1) + 1) < 600 ∧ Q (.inl none) (zh K (code, rf, rs, bad, pr, pn, len, plc, fin, ef, es, rr, rc, (((om + 1) + 1) + 1)) (m, pa, pb, pc, vf, vs, tx, rd, (va_up (va_up (va_up ou om (43 : Int32)) (om + 1) (45 : Int32)) ((om + 1) + 1) (105 : Int32))) w))))))))))))) : zW zm_243 13 [some (.ref 75), some (.int x1), some (.int x2)] [] p (zh K (code, rf, rs, bad, pr, pn, len, plc, fin, ef, es, rr, rc, om) (m, pa, pb, pc, vf, vs, tx, rd, ou) w) Q := by
  refine zW_bh (zcmp .eq x1 (0 : Int32)) 27 17 [some (.ref 75), some (.int x1), some (.int x2)] [] 2 (fun f => rfl) (fun c => ?_) (fun c => ?_)
  · have c9 : x1 = (0 : Int32) := (of_decide_eq_true c)
    replace H := H.1 c9
    refine zW_bh (zcmp .ne x2 (-1 : Int32)) 41 32 [some (.ref 75), some (.int x1), some (.int x2)] [] 3 (fun f => rfl) (fun c => ?_) (fun c => ?_)
    · have c9 : ¬ x2 = (-1 : Int32) := (by simpa [zcmp] using c)
      replace H := H.1 c9
      refine zW_bh (zcmp .eq x2 (0 : Int32)) 55 45 [some (.ref 75), some (.int x1), some (.int x2)] [] 2 (fun f => rfl) (fun c => ?_) (fun c => ?_)
      · have c9 : x2 = (0 : Int32) := (of_decide_eq_true c)
        replace H := H.1 c9
        refine zW_bh (zcmp .eq x2 (0 : Int32)) 65 59 [some (.ref 75), some (.int x1), some (.int x2)] [] 2 (fun f => rfl) (fun c => ?_) (fun c => ?_)
        · have c9 : x2 = (0 : Int32) := (of_decide_eq_true c)
          replace H := H.1 c9
          exact zW_rh none 1 (fun f => rfl) H
        · have c9 : ¬ x2 = (0 : Int32) := (of_decide_eq_false c)
          replace H := H.2 c9
          refine zW_gh 62 [some (.ref 75), some (.int x1), some (.int x2)] [.int (105 : Int32), .ref 75] 2 (fun f => rfl) ?_
          obtain ⟨h1, H⟩ := H
          refine zW_cl rfl rfl rfl rfl rfl (s241 h1 ?_)
          change zW zm_243 65 [some (.ref 75), some (.int x1), some (.int x2)] [] p _ Q
          exact zW_rh none 1 (fun f => rfl) H
      · have c9 : ¬ x2 = (0 : Int32) := (of_decide_eq_false c)
        replace H := H.2 c9
        refine zW_bh (zcmp .eq x2 (1 : Int32)) 55 50 [some (.ref 75), some (.int x1), some (.int x2)] [] 3 (fun f => rfl) (fun c => ?_) (fun c => ?_)
        · have c9 : x2 = (1 : Int32) := (of_decide_eq_true c)
          replace H := H.1 c9
          refine zW_bh (zcmp .eq x2 (0 : Int32)) 65 59 [some (.ref 75), some (.int x1), some (.int x2)] [] 2 (fun f => rfl) (fun c => ?_) (fun c => ?_)
          · have c9 : x2 = (0 : Int32) := (of_decide_eq_true c)
            replace H := H.1 c9
            exact zW_rh none 1 (fun f => rfl) H
          · have c9 : ¬ x2 = (0 : Int32) := (of_decide_eq_false c)
            replace H := H.2 c9
            refine zW_gh 62 [some (.ref 75), some (.int x1), some (.int x2)] [.int (105 : Int32), .ref 75] 2 (fun f => rfl) ?_
            obtain ⟨h2, H⟩ := H
            refine zW_cl rfl rfl rfl rfl rfl (s241 h2 ?_)
            change zW zm_243 65 [some (.ref 75), some (.int x1), some (.int x2)] [] p _ Q
            exact zW_rh none 1 (fun f => rfl) H
        · have c9 : ¬ x2 = (1 : Int32) := (of_decide_eq_false c)
          replace H := H.2 c9
          refine zW_gh 52 [some (.ref 75), some (.int x1), some (.int x2)] [.int x2, .ref 75] 2 (fun f => rfl) ?_
          refine zW_fg (L' := [some (.ref 75), none, some (.int x2)]) (zle_s _ (zle_n _ (zle_s _ zle_nil))) ?_
          exact zW_cl rfl rfl rfl rfl rfl H
    · have c9 : x2 = (-1 : Int32) := (by simpa [zcmp] using c)
      replace H := H.2 c9
      refine zW_gh 35 [some (.ref 75), some (.int x1), some (.int x2)] [.int (45 : Int32), .ref 75] 2 (fun f => rfl) ?_
      obtain ⟨h3, H⟩ := H
      refine zW_cl rfl rfl rfl rfl rfl (s241 h3 ?_)
      change zW zm_243 38 [some (.ref 75), some (.int x1), some (.int x2)] [] p _ Q
      refine zW_bh (zcmp .eq x2 (0 : Int32)) 65 59 [some (.ref 75), some (.int x1), some (.int x2)] [] 3 (fun f => rfl) (fun c => ?_) (fun c => ?_)
      · have c9 : x2 = (0 : Int32) := (of_decide_eq_true c)
        replace H := H.1 c9
        exact zW_rh none 1 (fun f => rfl) H
      · have c9 : ¬ x2 = (0 : Int32) := (of_decide_eq_false c)
        replace H := H.2 c9
        refine zW_gh 62 [some (.ref 75), some (.int x1), some (.int x2)] [.int (105 : Int32), .ref 75] 2 (fun f => rfl) ?_
        obtain ⟨h4, H⟩ := H
        refine zW_cl rfl rfl rfl rfl rfl (s241 h4 ?_)
        change zW zm_243 65 [some (.ref 75), some (.int x1), some (.int x2)] [] p _ Q
        exact zW_rh none 1 (fun f => rfl) H
  · have c9 : ¬ x1 = (0 : Int32) := (of_decide_eq_false c)
    replace H := H.2 c9
    refine zW_bh (zcmp .le x2 (0 : Int32)) 27 21 [some (.ref 75), some (.int x1), some (.int x2)] [] 2 (fun f => rfl) (fun c => ?_) (fun c => ?_)
    · have c9 : x2 ≤ (0 : Int32) := (of_decide_eq_true c)
      replace H := H.1 c9
      refine zW_bh (zcmp .ne x2 (-1 : Int32)) 41 32 [some (.ref 75), some (.int x1), some (.int x2)] [] 3 (fun f => rfl) (fun c => ?_) (fun c => ?_)
      · have c9 : ¬ x2 = (-1 : Int32) := (by simpa [zcmp] using c)
        replace H := H.1 c9
        refine zW_bh (zcmp .eq x2 (0 : Int32)) 55 45 [some (.ref 75), some (.int x1), some (.int x2)] [] 2 (fun f => rfl) (fun c => ?_) (fun c => ?_)
        · have c9 : x2 = (0 : Int32) := (of_decide_eq_true c)
          replace H := H.1 c9
          refine zW_bh (zcmp .eq x2 (0 : Int32)) 65 59 [some (.ref 75), some (.int x1), some (.int x2)] [] 2 (fun f => rfl) (fun c => ?_) (fun c => ?_)
          · have c9 : x2 = (0 : Int32) := (of_decide_eq_true c)
            replace H := H.1 c9
            exact zW_rh none 1 (fun f => rfl) H
          · have c9 : ¬ x2 = (0 : Int32) := (of_decide_eq_false c)
            replace H := H.2 c9
            refine zW_gh 62 [some (.ref 75), some (.int x1), some (.int x2)] [.int (105 : Int32), .ref 75] 2 (fun f => rfl) ?_
            obtain ⟨h5, H⟩ := H
            refine zW_cl rfl rfl rfl rfl rfl (s241 h5 ?_)
            change zW zm_243 65 [some (.ref 75), some (.int x1), some (.int x2)] [] p _ Q
            exact zW_rh none 1 (fun f => rfl) H
        · have c9 : ¬ x2 = (0 : Int32) := (of_decide_eq_false c)
          replace H := H.2 c9
          refine zW_bh (zcmp .eq x2 (1 : Int32)) 55 50 [some (.ref 75), some (.int x1), some (.int x2)] [] 3 (fun f => rfl) (fun c => ?_) (fun c => ?_)
          · have c9 : x2 = (1 : Int32) := (of_decide_eq_true c)
            replace H := H.1 c9
            refine zW_bh (zcmp .eq x2 (0 : Int32)) 65 59 [some (.ref 75), some (.int x1), some (.int x2)] [] 2 (fun f => rfl) (fun c => ?_) (fun c => ?_)
            · have c9 : x2 = (0 : Int32) := (of_decide_eq_true c)
              replace H := H.1 c9
              exact zW_rh none 1 (fun f => rfl) H
            · have c9 : ¬ x2 = (0 : Int32) := (of_decide_eq_false c)
              replace H := H.2 c9
              refine zW_gh 62 [some (.ref 75), some (.int x1), some (.int x2)] [.int (105 : Int32), .ref 75] 2 (fun f => rfl) ?_
              obtain ⟨h6, H⟩ := H
              refine zW_cl rfl rfl rfl rfl rfl (s241 h6 ?_)
              change zW zm_243 65 [some (.ref 75), some (.int x1), some (.int x2)] [] p _ Q
              exact zW_rh none 1 (fun f => rfl) H
          · have c9 : ¬ x2 = (1 : Int32) := (of_decide_eq_false c)
            replace H := H.2 c9
            refine zW_gh 52 [some (.ref 75), some (.int x1), some (.int x2)] [.int x2, .ref 75] 2 (fun f => rfl) ?_
            refine zW_fg (L' := [some (.ref 75), none, some (.int x2)]) (zle_s _ (zle_n _ (zle_s _ zle_nil))) ?_
            exact zW_cl rfl rfl rfl rfl rfl H
      · have c9 : x2 = (-1 : Int32) := (by simpa [zcmp] using c)
        replace H := H.2 c9
        refine zW_gh 35 [some (.ref 75), some (.int x1), some (.int x2)] [.int (45 : Int32), .ref 75] 2 (fun f => rfl) ?_
        obtain ⟨h7, H⟩ := H
        refine zW_cl rfl rfl rfl rfl rfl (s241 h7 ?_)
        change zW zm_243 38 [some (.ref 75), some (.int x1), some (.int x2)] [] p _ Q
        refine zW_bh (zcmp .eq x2 (0 : Int32)) 65 59 [some (.ref 75), some (.int x1), some (.int x2)] [] 3 (fun f => rfl) (fun c => ?_) (fun c => ?_)
        · have c9 : x2 = (0 : Int32) := (of_decide_eq_true c)
          replace H := H.1 c9
          exact zW_rh none 1 (fun f => rfl) H
        · have c9 : ¬ x2 = (0 : Int32) := (of_decide_eq_false c)
          replace H := H.2 c9
          refine zW_gh 62 [some (.ref 75), some (.int x1), some (.int x2)] [.int (105 : Int32), .ref 75] 2 (fun f => rfl) ?_
          obtain ⟨h8, H⟩ := H
          refine zW_cl rfl rfl rfl rfl rfl (s241 h8 ?_)
          change zW zm_243 65 [some (.ref 75), some (.int x1), some (.int x2)] [] p _ Q
          exact zW_rh none 1 (fun f => rfl) H
    · have c9 : ¬ x2 ≤ (0 : Int32) := (of_decide_eq_false c)
      replace H := H.2 c9
      refine zW_gh 24 [some (.ref 75), some (.int x1), some (.int x2)] [.int (43 : Int32), .ref 75] 2 (fun f => rfl) ?_
      obtain ⟨h9, H⟩ := H
      refine zW_cl rfl rfl rfl rfl rfl (s241 h9 ?_)
      change zW zm_243 27 [some (.ref 75), some (.int x1), some (.int x2)] [] p _ Q
      refine zW_bh (zcmp .ne x2 (-1 : Int32)) 41 32 [some (.ref 75), some (.int x1), some (.int x2)] [] 3 (fun f => rfl) (fun c => ?_) (fun c => ?_)
      · have c9 : ¬ x2 = (-1 : Int32) := (by simpa [zcmp] using c)
        replace H := H.1 c9
        refine zW_bh (zcmp .eq x2 (0 : Int32)) 55 45 [some (.ref 75), some (.int x1), some (.int x2)] [] 2 (fun f => rfl) (fun c => ?_) (fun c => ?_)
        · have c9 : x2 = (0 : Int32) := (of_decide_eq_true c)
          replace H := H.1 c9
          refine zW_bh (zcmp .eq x2 (0 : Int32)) 65 59 [some (.ref 75), some (.int x1), some (.int x2)] [] 2 (fun f => rfl) (fun c => ?_) (fun c => ?_)
          · have c9 : x2 = (0 : Int32) := (of_decide_eq_true c)
            replace H := H.1 c9
            exact zW_rh none 1 (fun f => rfl) H
          · have c9 : ¬ x2 = (0 : Int32) := (of_decide_eq_false c)
            replace H := H.2 c9
            refine zW_gh 62 [some (.ref 75), some (.int x1), some (.int x2)] [.int (105 : Int32), .ref 75] 2 (fun f => rfl) ?_
            obtain ⟨h10, H⟩ := H
            refine zW_cl rfl rfl rfl rfl rfl (s241 h10 ?_)
            change zW zm_243 65 [some (.ref 75), some (.int x1), some (.int x2)] [] p _ Q
            exact zW_rh none 1 (fun f => rfl) H
        · have c9 : ¬ x2 = (0 : Int32) := (of_decide_eq_false c)
          replace H := H.2 c9
          refine zW_bh (zcmp .eq x2 (1 : Int32)) 55 50 [some (.ref 75), some (.int x1), some (.int x2)] [] 3 (fun f => rfl) (fun c => ?_) (fun c => ?_)
          · have c9 : x2 = (1 : Int32) := (of_decide_eq_true c)
            replace H := H.1 c9
            refine zW_bh (zcmp .eq x2 (0 : Int32)) 65 59 [some (.ref 75), some (.int x1), some (.int x2)] [] 2 (fun f => rfl) (fun c => ?_) (fun c => ?_)
            · have c9 : x2 = (0 : Int32) := (of_decide_eq_true c)
              replace H := H.1 c9
              exact zW_rh none 1 (fun f => rfl) H
            · have c9 : ¬ x2 = (0 : Int32) := (of_decide_eq_false c)
              replace H := H.2 c9
              refine zW_gh 62 [some (.ref 75), some (.int x1), some (.int x2)] [.int (105 : Int32), .ref 75] 2 (fun f => rfl) ?_
              obtain ⟨h11, H⟩ := H
              refine zW_cl rfl rfl rfl rfl rfl (s241 h11 ?_)
              change zW zm_243 65 [some (.ref 75), some (.int x1), some (.int x2)] [] p _ Q
              exact zW_rh none 1 (fun f => rfl) H
          · have c9 : ¬ x2 = (1 : Int32) := (of_decide_eq_false c)
            replace H := H.2 c9
            refine zW_gh 52 [some (.ref 75), some (.int x1), some (.int x2)] [.int x2, .ref 75] 2 (fun f => rfl) ?_
            refine zW_fg (L' := [some (.ref 75), none, some (.int x2)]) (zle_s _ (zle_n _ (zle_s _ zle_nil))) ?_
            exact zW_cl rfl rfl rfl rfl rfl H
      · have c9 : x2 = (-1 : Int32) := (by simpa [zcmp] using c)
        replace H := H.2 c9
        refine zW_gh 35 [some (.ref 75), some (.int x1), some (.int x2)] [.int (45 : Int32), .ref 75] 2 (fun f => rfl) ?_
        obtain ⟨h12, H⟩ := H
        refine zW_cl rfl rfl rfl rfl rfl (s241 h12 ?_)
        change zW zm_243 38 [some (.ref 75), some (.int x1), some (.int x2)] [] p _ Q
        refine zW_bh (zcmp .eq x2 (0 : Int32)) 65 59 [some (.ref 75), some (.int x1), some (.int x2)] [] 3 (fun f => rfl) (fun c => ?_) (fun c => ?_)
        · have c9 : x2 = (0 : Int32) := (of_decide_eq_true c)
          replace H := H.1 c9
          exact zW_rh none 1 (fun f => rfl) H
        · have c9 : ¬ x2 = (0 : Int32) := (of_decide_eq_false c)
          replace H := H.2 c9
          refine zW_gh 62 [some (.ref 75), some (.int x1), some (.int x2)] [.int (105 : Int32), .ref 75] 2 (fun f => rfl) ?_
          obtain ⟨h13, H⟩ := H
          refine zW_cl rfl rfl rfl rfl rfl (s241 h13 ?_)
          change zW zm_243 65 [some (.ref 75), some (.int x1), some (.int x2)] [] p _ Q
          exact zW_rh none 1 (fun f => rfl) H
theorem b243_55 {K : zKt} {code rf rs pr pn ef es : Int32} {bad fin : Bool} {len plc rr rc om : Nat} {m pa pb pc vf vs tx rd ou : Nat → Int32} {w : Nat → Int64} {p : Nat × Nat} {Q : zR → zH → Prop} {x2 : Int32} (H : ((x2 = (0 : Int32) → Q (.inl none) (zh K (code, rf, rs, bad, pr, pn, len, plc, fin, ef, es, rr, rc, om) (m, pa, pb, pc, vf, vs, tx, rd, ou) w)) ∧ (¬ x2 = (0 : Int32) → (om < 600 ∧ Q (.inl none) (zh K (code, rf, rs, bad, pr, pn, len, plc, fin, ef, es, rr, rc, (om + 1)) (m, pa, pb, pc, vf, vs, tx, rd, (va_up ou om (105 : Int32))) w))))) : zW zm_243 55 [some (.ref 75), none, some (.int x2)] [] p (zh K (code, rf, rs, bad, pr, pn, len, plc, fin, ef, es, rr, rc, om) (m, pa, pb, pc, vf, vs, tx, rd, ou) w) Q := by
  refine zW_bh (zcmp .eq x2 (0 : Int32)) 65 59 [some (.ref 75), none, some (.int x2)] [] 2 (fun f => rfl) (fun c => ?_) (fun c => ?_)
  · have c9 : x2 = (0 : Int32) := (of_decide_eq_true c)
    replace H := H.1 c9
    exact zW_rh none 1 (fun f => rfl) H
  · have c9 : ¬ x2 = (0 : Int32) := (of_decide_eq_false c)
    replace H := H.2 c9
    refine zW_gh 62 [some (.ref 75), none, some (.int x2)] [.int (105 : Int32), .ref 75] 2 (fun f => rfl) ?_
    obtain ⟨h1, H⟩ := H
    refine zW_cl rfl rfl rfl rfl rfl (s241 h1 ?_)
    change zW zm_243 65 [some (.ref 75), none, some (.int x2)] [] p _ Q
    exact zW_rh none 1 (fun f => rfl) H
theorem b244 {K : zKt} {code rf rs pr pn ef es : Int32} {bad fin : Bool} {len plc rr rc om : Nat} {m pa pb pc vf vs tx rd ou : Nat → Int32} {w : Nat → Int64} {p : Nat × Nat} {Q : zR → zH → Prop} {a0 a1 : Nat} (H : zT zm_159 [.int (Int32.ofNat a0), .int (Int32.ofNat a1), .ref 77] p (zh K (code, rf, rs, bad, pr, pn, len, plc, fin, ef, es, rr, rc, om) (m, pa, pb, pc, vf, vs, tx, rd, ou) w) (zK zm_244 9 [some (.ref 75), none, none, none, none] [] p Q)) : zT zm_244 [.ref 75, .int (Int32.ofNat a0), .int (Int32.ofNat a1)] p (zh K (code, rf, rs, bad, pr, pn, len, plc, fin, ef, es, rr, rc, om) (m, pa, pb, pc, vf, vs, tx, rd, ou) w) Q := by
  change zW zm_244 0 [some (.ref 75), some (.int (Int32.ofNat a0)), some (.int (Int32.ofNat a1)), none, none] [] p _ Q
  refine zW_gh 6 [some (.ref 75), some (.int (Int32.ofNat a0)), some (.int (Int32.ofNat a1)), none, none] [.ref 77, .int (Int32.ofNat a1), .int (Int32.ofNat a0)] 4 (fun f => rfl) ?_
  refine zW_fg (L' := [some (.ref 75), none, none, none, none]) (zle_s _ (zle_n _ (zle_n _ (zle_s _ (zle_s _ zle_nil))))) ?_
  exact zW_cl rfl rfl rfl rfl rfl H
theorem b244_9 {K : zKt} {code rf rs pr pn ef es : Int32} {bad fin : Bool} {len plc rr rc om : Nat} {m pa pb pc vf vs tx rd ou : Nat → Int32} {w : Nat → Int64} {p : Nat × Nat} {Q : zR → zH → Prop} (H : zW zm_244 15 [some (.ref 75), none, none, some (.int (Int32.ofNat 1)), some (.int (7 : Int32))] [] p (zh K (code, rf, rs, bad, pr, pn, len, plc, fin, ef, es, rr, rc, om) (m, pa, pb, pc, vf, vs, tx, rd, ou) w) Q) : zW zm_244 9 [some (.ref 75), none, none, none, none] [] p (zh K (code, rf, rs, bad, pr, pn, len, plc, fin, ef, es, rr, rc, om) (m, pa, pb, pc, vf, vs, tx, rd, ou) w) Q := by
  refine zW_gh 15 [some (.ref 75), none, none, some (.int (1 : Int32)), some (.int (7 : Int32))] [] 4 (fun f => rfl) ?_
  exact H
theorem b244_15 {K : zKt} {code rf rs pr pn ef es : Int32} {bad fin : Bool} {len plc rr rc om : Nat} {m pa pb pc vf vs tx rd ou : Nat → Int32} {w : Nat → Int64} {p : Nat × Nat} {Q : zR → zH → Prop} {x3 : Nat} {x4 : Int32} (H : ((x4 < (0 : Int32) → (x3 < 2147483648 ∧ ((x3 = 0 → Q (.inl none) (zh K (code, rf, rs, bad, pr, pn, len, plc, fin, ef, es, rr, rc, om) (m, pa, pb, pc, vf, vs, tx, rd, ou) w)) ∧ (¬ x3 = 0 → (om < 600 ∧ Q (.inl none) (zh K (code, rf, rs, bad, pr, pn, len, plc, fin, ef, es, rr, rc, (om + 1)) (m, pa, pb, pc, vf, vs, tx, rd, (va_up ou om (48 : Int32))) w)))))) ∧ (¬ x4 < (0 : Int32) → ∀ k_x4, k_x4 < 2147483648 → x4 = Int32.ofNat k_x4 → (k_x4 < 8 ∧ (((pa k_x4) = (0 : Int32) → zW zm_244 15 [some (.ref 75), none, none, some (.int (Int32.ofNat x3)), some (.int ((Int32.ofNat k_x4) + Int32.ofInt (-1)))] [] p (zh K (code, rf, rs, bad, pr, pn, len, plc, fin, ef, es, rr, rc, om) (m, pa, pb, pc, vf, vs, tx, rd, ou) w) Q) ∧ (¬ (pa k_x4) = (0 : Int32) → (x3 < 2147483648 ∧ ((¬ x3 = 0 → ((¬ (pa k_x4) = (1 : Int32) → (om < 600 ∧ ((k_x4 ≤ 0 → ((k_x4 ≤ 1 → zW zm_244 15 [some (.ref 75), none, none, some (.int (Int32.ofNat 0)), some (.int ((Int32.ofNat k_x4) + Int32.ofInt (-1)))] [] p (zh K (code, rf, rs, bad, pr, pn, len, plc, fin, ef, es, rr, rc, (om + 1)) (m, pa, pb, pc, vf, vs, tx, rd, (va_up ou om ((48 : Int32) + (pa k_x4)))) w) Q) ∧ (1 < k_x4 → ((om + 1) < 600 ∧ (((om + 1) + 1) < 600 ∧ zW zm_244 15 [some (.ref 75), none, none, some (.int (Int32.ofNat 0)), some (.int ((Int32.ofNat k_x4) + Int32.ofInt (-1)))] [] p (zh K (code, rf, rs, bad, pr, pn, len, plc, fin, ef, es, rr, rc, (((om + 1) + 1) + 1)) (m, pa, pb, pc, vf, vs, tx, rd, (va_up (va_up (va_up ou om ((48 : Int32) + (pa k_x4))) (om + 1) (94 : Int32)) ((om + 1) + 1) ((48 : Int32) + (Int32.ofNat k_x4)))) w) Q))))) ∧ (0 < k_x4 → ((om + 1) < 600 ∧ ((k_x4 ≤ 1 → zW zm_244 15 [some (.ref 75), none, none, some (.int (Int32.ofNat 0)), some (.int ((Int32.ofNat k_x4) + Int32.ofInt (-1)))] [] p (zh K (code, rf, rs, bad, pr, pn, len, plc, fin, ef, es, rr, rc, ((om + 1) + 1)) (m, pa, pb, pc, vf, vs, tx, rd, (va_up (va_up ou om ((48 : Int32) + (pa k_x4))) (om + 1) (120 : Int32))) w) Q) ∧ (1 < k_x4 → (((om + 1) + 1) < 600 ∧ ((((om + 1) + 1) + 1) < 600 ∧ zW zm_244 15 [some (.ref 75), none, none, some (.int (Int32.ofNat 0)), some (.int ((Int32.ofNat k_x4) + Int32.ofInt (-1)))] [] p (zh K (code, rf, rs, bad, pr, pn, len, plc, fin, ef, es, rr, rc, ((((om + 1) + 1) + 1) + 1)) (m, pa, pb, pc, vf, vs, tx, rd, (va_up (va_up (va_up (va_up ou om ((48 : Int32) + (pa k_x4))) (om + 1) (120 : Int32)) ((om + 1) + 1) (94 : Int32)) (((om + 1) + 1) + 1) ((48 : Int32) + (Int32.ofNat k_x4)))) w) Q))))))))) ∧ ((pa k_x4) = (1 : Int32) → ((¬ k_x4 = 0 → ((k_x4 ≤ 0 → ((k_x4 ≤ 1 → zW zm_244 15 [some (.ref 75), none, none, some (.int (Int32.ofNat 0)), some (.int ((Int32.ofNat k_x4) + Int32.ofInt (-1)))] [] p (zh K (code, rf, rs, bad, pr, pn, len, plc, fin, ef, es, rr, rc, om) (m, pa, pb, pc, vf, vs, tx, rd, ou) w) Q) ∧ (1 < k_x4 → (om < 600 ∧ ((om + 1) < 600 ∧ zW zm_244 15 [some (.ref 75), none, none, some (.int (Int32.ofNat 0)), some (.int ((Int32.ofNat k_x4) + Int32.ofInt (-1)))] [] p (zh K (code, rf, rs, bad, pr, pn, len, plc, fin, ef, es, rr, rc, ((om + 1) + 1)) (m, pa, pb, pc, vf, vs, tx, rd, (va_up (va_up ou om (94 : Int32)) (om + 1) ((48 : Int32) + (Int32.ofNat k_x4)))) w) Q))))) ∧ (0 < k_x4 → (om < 600 ∧ ((k_x4 ≤ 1 → zW zm_244 15 [some (.ref 75), none, none, some (.int (Int32.ofNat 0)), some (.int ((Int32.ofNat k_x4) + Int32.ofInt (-1)))] [] p (zh K (code, rf, rs, bad, pr, pn, len, plc, fin, ef, es, rr, rc, (om + 1)) (m, pa, pb, pc, vf, vs, tx, rd, (va_up ou om (120 : Int32))) w) Q) ∧ (1 < k_x4 → ((om + 1) < 600 ∧ (((om + 1) + 1) < 600 ∧ zW zm_244 15 [some (.ref 75), none, none, some (.int (Int32.ofNat 0)), some (.int ((Int32.ofNat k_x4) + Int32.ofInt (-1)))] [] p (zh K (code, rf, rs, bad, pr, pn, len, plc, fin, ef, es, rr, rc, (((om + 1) + 1) + 1)) (m, pa, pb, pc, vf, vs, tx, rd, (va_up (va_up (va_up ou om (120 : Int32)) (om + 1) (94 : Int32)) ((om + 1) + 1) ((48 : Int32) + (Int32.ofNat k_x4)))) w) Q)))))))) ∧ (k_x4 = 0 → (om < 600 ∧ ((k_x4 ≤ 0 → ((k_x4 ≤ 1 → zW zm_244 15 [some (.ref 75), none, none, some (.int (Int32.ofNat 0)), some (.int ((Int32.ofNat k_x4) + Int32.ofInt (-1)))] [] p (zh K (code, rf, rs, bad, pr, pn, len, plc, fin, ef, es, rr, rc, (om + 1)) (m, pa, pb, pc, vf, vs, tx, rd, (va_up ou om ((48 : Int32) + (pa k_x4)))) w) Q) ∧ (1 < k_x4 → ((om + 1) < 600 ∧ (((om + 1) + 1) < 600 ∧ zW zm_244 15 [some (.ref 75), none, none, some (.int (Int32.ofNat 0)), some (.int ((Int32.ofNat k_x4) + Int32.ofInt (-1)))] [] p (zh K (code, rf, rs, bad, pr, pn, len, plc, fin, ef, es, rr, rc, (((om + 1) + 1) + 1)) (m, pa, pb, pc, vf, vs, tx, rd, (va_up (va_up (va_up ou om ((48 : Int32) + (pa k_x4))) (om + 1) (94 : Int32)) ((om + 1) + 1) ((48 : Int32) + (Int32.ofNat k_x4)))) w) Q))))) ∧ (0 < k_x4 → ((om + 1) < 600 ∧ ((k_x4 ≤ 1 → zW zm_244 15 [some (.ref 75), none, none, some (.int (Int32.ofNat 0)), some (.int ((Int32.ofNat k_x4) + Int32.ofInt (-1)))] [] p (zh K (code, rf, rs, bad, pr, pn, len, plc, fin, ef, es, rr, rc, ((om + 1) + 1)) (m, pa, pb, pc, vf, vs, tx, rd, (va_up (va_up ou om ((48 : Int32) + (pa k_x4))) (om + 1) (120 : Int32))) w) Q) ∧ (1 < k_x4 → (((om + 1) + 1) < 600 ∧ ((((om + 1) + 1) + 1) < 600 ∧ zW zm_244 15 [some (.ref 75), none, none, some (.int (Int32.ofNat 0)), some (.int ((Int32.ofNat k_x4) + Int32.ofInt (-1)))] [] p (zh K (code, rf, rs, bad, pr, pn, len, plc, fin, ef, es, rr, rc, ((((om + 1) + 1) + 1) + 1)) (m, pa, pb, pc, vf, vs, tx, rd, (va_up (va_up (va_up (va_up ou om ((48 : Int32) + (pa k_x4))) (om + 1) (120 : Int32)) ((om + 1) + 1) (94 : Int32)) (((om + 1) + 1) + 1) ((48 : Int32) + (Int32.ofNat k_x4)))) w) Q))))))))))))) ∧ (x3 = 0 → (om < 600 ∧ ((¬ (pa k_x4) = (1 : Int32) → ((om + 1) < 600 ∧ ((k_x4 ≤ 0 → ((k_x4 ≤ 1 → zW zm_244 15 [some (.ref 75), none, none, some (.int (Int32.ofNat 0)), some (.int ((Int32.ofNat k_x4) + Int32.ofInt (-1)))] [] p (zh K (code, rf, rs, bad, pr, pn, len, plc, fin, ef, es, rr, rc, ((om + 1) + 1)) (m, pa, pb, pc, vf, vs, tx, rd, (va_up (va_up ou om (43 : Int32)) (om + 1) ((48 : Int32) + (pa k_x4)))) w) Q) ∧ (1 < k_x4 → (((om + 1) + 1) < 600 ∧ ((((om + 1) + 1) + 1) < 600 ∧ zW zm_244 15 [some (.ref 75), none, none, some (.int (Int32.ofNat 0)), some (.int ((Int32.ofNat k_x4) + Int32.ofInt (-1)))] [] p (zh K (code, rf, rs, bad, pr, pn, len, plc, fin, ef, es, rr, rc, ((((om + 1) + 1) + 1) + 1)) (m, pa, pb, pc, vf, vs, tx, rd, (va_up (va_up (va_up (va_up ou om (43 : Int32)) (om + 1) ((48 : Int32) + (pa k_x4))) ((om + 1) + 1) (94 : Int32)) (((om + 1) + 1) + 1) ((48 : Int32) + (Int32.ofNat k_x4)))) w) Q))))) ∧ (0 < k_x4 → (((om + 1) + 1) < 600 ∧ ((k_x4 ≤ 1 → zW zm_244 15 [some (.ref 75), none, none, some (.int (Int32.ofNat 0)), some (.int ((Int32.ofNat k_x4) + Int32.ofInt (-1)))] [] p (zh K (code, rf, rs, bad, pr, pn, len, plc, fin, ef, es, rr, rc, (((om + 1) + 1) + 1)) (m, pa, pb, pc, vf, vs, tx, rd, (va_up (va_up (va_up ou om (43 : Int32)) (om + 1) ((48 : Int32) + (pa k_x4))) ((om + 1) + 1) (120 : Int32))) w) Q) ∧ (1 < k_x4 → ((((om + 1) + 1) + 1) < 600 ∧ (((((om + 1) + 1) + 1) + 1) < 600 ∧ zW zm_244 15 [some (.ref 75), none, none, some (.int (Int32.ofNat 0)), some (.int ((Int32.ofNat k_x4) + Int32.ofInt (-1)))] [] p (zh K (code, rf, rs, bad, pr, pn, len, plc, fin, ef, es, rr, rc, (((((om + 1) + 1) + 1) + 1) + 1)) (m, pa, pb, pc, vf, vs, tx, rd, (va_up (va_up (va_up (va_up (va_up ou om (43 : Int32)) (om + 1) ((48 : Int32) + (pa k_x4))) ((om + 1) + 1) (120 : Int32)) (((om + 1) + 1) + 1) (94 : Int32)) ((((om + 1) + 1) + 1) + 1) ((48 : Int32) + (Int32.ofNat k_x4)))) w) Q))))))))) ∧ ((pa k_x4) = (1 : Int32) → ((¬ k_x4 = 0 → ((k_x4 ≤ 0 → ((k_x4 ≤ 1 → zW zm_244 15 [some (.ref 75), none, none, some (.int (Int32.ofNat 0)), some (.int ((Int32.ofNat k_x4) + Int32.ofInt (-1)))] [] p (zh K (code, rf, rs, bad, pr, pn, len, plc, fin, ef, es, rr, rc, (om + 1)) (m, pa, pb, pc, vf, vs, tx, rd, (va_up ou om (43 : Int32))) w) Q) ∧ (1 < k_x4 → ((om + 1) < 600 ∧ (((om + 1) + 1) < 600 ∧ zW zm_244 15 [some (.ref 75), none, none, some (.int (Int32.ofNat 0)), some (.int ((Int32.ofNat k_x4) + Int32.ofInt (-1)))] [] p (zh K (code, rf, rs, bad, pr, pn, len, plc, fin, ef, es, rr, rc, (((om + 1) + 1) + 1)) (m, pa, pb, pc, vf, vs, tx, rd, (va_up (va_up (va_up ou om (43 : Int32)) (om + 1) (94 : Int32)) ((om + 1) + 1) ((48 : Int32) + (Int32.ofNat k_x4)))) w) Q))))) ∧ (0 < k_x4 → ((om + 1) < 600 ∧ ((k_x4 ≤ 1 → zW zm_244 15 [some (.ref 75), none, none, some (.int (Int32.ofNat 0)), some (.int ((Int32.ofNat k_x4) + Int32.ofInt (-1)))] [] p (zh K (code, rf, rs, bad, pr, pn, len, plc, fin, ef, es, rr, rc, ((om + 1) + 1)) (m, pa, pb, pc, vf, vs, tx, rd, (va_up (va_up ou om (43 : Int32)) (om + 1) (120 : Int32))) w) Q) ∧ (1 < k_x4 → (((om + 1) + 1) < 600 ∧ ((((om + 1) + 1) + 1) < 600 ∧ zW zm_244 15 [some (.ref 75), none, none, some (.int (Int32.ofNat 0)), some (.int ((Int32.ofNat k_x4) + Int32.ofInt (-1)))] [] p (zh K (code, rf, rs, bad, pr, pn, len, plc, fin, ef, es, rr, rc, ((((om + 1) + 1) + 1) + 1)) (m, pa, pb, pc, vf, vs, tx, rd, (va_up (va_up (va_up (va_up ou om (43 : Int32)) (om + 1) (120 : Int32)) ((om + 1) + 1) (94 : Int32)) (((om + 1) + 1) + 1) ((48 : Int32) + (Int32.ofNat k_x4)))) w) Q)))))))) ∧ (k_x4 = 0 → ((om + 1) < 600 ∧ ((k_x4 ≤ 0 → ((k_x4 ≤ 1 → zW zm_244 15 [some (.ref 75), none, none, some (.int (Int32.ofNat 0)), some (.int ((Int32.ofNat k_x4) + Int32.ofInt (-1)))] [] p (zh K (code, rf, rs, bad, pr, pn, len, plc, fin, ef, es, rr, rc, ((om + 1) + 1)) (m, pa, pb, pc, vf, vs, tx, rd, (va_up (va_up ou om (43 : Int32)) (om + 1) ((48 : Int32) + (pa k_x4)))) w) Q) ∧ (1 < k_x4 → (((om + 1) + 1) < 600 ∧ ((((om + 1) + 1) + 1) < 600 ∧ zW zm_244 15 [some (.ref 75), none, none, some (.int (Int32.ofNat 0)), some (.int ((Int32.ofNat k_x4) + Int32.ofInt (-1)))] [] p (zh K (code, rf, rs, bad, pr, pn, len, plc, fin, ef, es, rr, rc, ((((om + 1) + 1) + 1) + 1)) (m, pa, pb, pc, vf, vs, tx, rd, (va_up (va_up (va_up (va_up ou om (43 : Int32)) (om + 1) ((48 : Int32) + (pa k_x4))) ((om + 1) + 1) (94 : Int32)) (((om + 1) + 1) + 1) ((48 : Int32) + (Int32.ofNat k_x4)))) w) Q))))) ∧ (0 < k_x4 → (((om + 1) + 1) < 600 ∧ ((k_x4 ≤ 1 → zW zm_244 15 [some (.ref 75), none, none, some (.int (Int32.ofNat 0)), some (.int ((Int32.ofNat k_x4) + Int32.ofInt (-1)))] [] p (zh K (code, rf, rs, bad, pr, pn, len, plc, fin, ef, es, rr, rc, (((om + 1) + 1) + 1)) (m, pa, pb, pc, vf, vs, tx, rd, (va_up (va_up (va_up ou om (43 : Int32)) (om + 1) ((48 : Int32) + (pa k_x4))) ((om + 1) + 1) (120 : Int32))) w) Q) ∧ (1 < k_x4 → ((((om + 1) + 1) + 1) < 600 ∧ (((((om + 1) + 1) + 1) + 1) < 600 ∧ zW zm_244 15 [some (.ref 75), none, none, some (.int (Int32.ofNat 0)), some (.int ((Int32.ofNat k_x4) + Int32.ofInt (-1)))] [] p (zh K (code, rf, rs, bad, pr, pn, len, plc, fin, ef, es, rr, rc, (((((om + 1) + 1) + 1) + 1) + 1)) (m, pa, pb, pc, vf, vs, tx, rd, (va_up (va_up (va_up (va_up (va_up ou om (43 : Int32)) (om + 1) ((48 : Int32) + (pa k_x4))) ((om + 1) + 1) (120 : Int32)) (((om + 1) + 1) + 1) (94 : Int32)) ((((om + 1) + 1) + 1) + 1) ((48 : Int32) + (Int32.ofNat k_x4)))) w) Q)))))))))))))))))))))) : zW zm_244 15 [some (.ref 75), none, none, some (.int (Int32.ofNat x3)), some (.int x4)] [] p (zh K (code, rf, rs, bad, pr, pn, len, plc, fin, ef, es, rr, rc, om) (m, pa, pb, pc, vf, vs, tx, rd, ou) w) Q := by
  refine zW_bh (zcmp .lt x4 (0 : Int32)) 110 20 [some (.ref 75), none, none, some (.int (Int32.ofNat x3)), some (.int x4)] [] 2 (fun f => rfl) (fun c => ?_) (fun c => ?_)
  · have c9 : x4 < (0 : Int32) := (of_decide_eq_true c)
    replace H := H.1 c9
    obtain ⟨h1, H⟩ := H
    refine zW_bh (zcmp .eq (Int32.ofNat x3) (0 : Int32)) 120 114 [some (.ref 75), none, none, some (.int (Int32.ofNat x3)), some (.int x4)] [] 2 (fun f => rfl) (fun c => ?_) (fun c => ?_)
    · have c9 : x3 = 0 := (of_decide_eq_true ((zcN_eq (a := x3) (b := 0) rfl rfl h1 (by decide)).symm.trans c))
      replace H := H.1 c9
      exact zW_rh none 1 (fun f => rfl) H
    · have c9 : ¬ x3 = 0 := (of_decide_eq_false ((zcN_eq (a := x3) (b := 0) rfl rfl h1 (by decide)).symm.trans c))
      replace H := H.2 c9
      refine zW_gh 117 [some (.ref 75), none, none, some (.int (Int32.ofNat x3)), some (.int x4)] [.int (48 : Int32), .ref 75] 2 (fun f => rfl) ?_
      obtain ⟨h2, H⟩ := H
      refine zW_cl rfl rfl rfl rfl rfl (s241 h2 ?_)
      change zW zm_244 120 [some (.ref 75), none, none, some (.int (Int32.ofNat x3)), some (.int x4)] [] p _ Q
      exact zW_rh none 1 (fun f => rfl) H
  · have c9 : ¬ x4 < (0 : Int32) := (of_decide_eq_false c)
    replace H := H.2 c9
    obtain ⟨k_x4, h_k_x4, e_k_x4⟩ := zNn c9
    replace H := H k_x4 h_k_x4 e_k_x4
    subst e_k_x4
    refine zW_gh 26 [some (.ref 75), none, none, some (.int (Int32.ofNat x3)), some (.int (Int32.ofNat k_x4))] [.int (Int32.ofNat k_x4), .ref 77] 3 (fun f => rfl) ?_
    obtain ⟨h3, H⟩ := H
    refine zW_iald rfl (by decide) rfl (by decide) rfl h3 ?_
    refine zW_bh (zcmp .eq (pa k_x4) (0 : Int32)) 104 30 [some (.ref 75), none, none, some (.int (Int32.ofNat x3)), some (.int (Int32.ofNat k_x4))] [] 1 (fun f => rfl) (fun c => ?_) (fun c => ?_)
    · have c9 : (pa k_x4) = (0 : Int32) := (of_decide_eq_true c)
      replace H := H.1 c9
      refine zW_inc [some (.ref 75), none, none, some (.int (Int32.ofNat x3)), some (.int ((Int32.ofNat k_x4) + Int32.ofInt (-1)))] rfl rfl rfl ?_
      refine zW_gh 15 [some (.ref 75), none, none, some (.int (Int32.ofNat x3)), some (.int ((Int32.ofNat k_x4) + Int32.ofInt (-1)))] [] 1 (fun f => rfl) ?_
      exact H
    · have c9 : ¬ (pa k_x4) = (0 : Int32) := (of_decide_eq_false c)
      replace H := H.2 c9
      obtain ⟨h4, H⟩ := H
      refine zW_bh (zcmp .ne (Int32.ofNat x3) (0 : Int32)) 40 34 [some (.ref 75), none, none, some (.int (Int32.ofNat x3)), some (.int (Int32.ofNat k_x4))] [] 2 (fun f => rfl) (fun c => ?_) (fun c => ?_)
      · have c9 : ¬ x3 = 0 := (by have c := (zcN_ne (a := x3) (b := 0) rfl rfl h4 (by decide)).symm.trans c; simpa using c)
        replace H := H.1 c9
        refine zW_gh 48 [some (.ref 75), none, none, some (.int (0 : Int32)), some (.int (Int32.ofNat k_x4))] [.int (Int32.ofNat k_x4), .ref 77] 5 (fun f => rfl) ?_
        refine zW_iald rfl (by decide) rfl (by decide) rfl h3 ?_
        refine zW_bh (zcmp .ne (pa k_x4) (1 : Int32)) 58 53 [some (.ref 75), none, none, some (.int (0 : Int32)), some (.int (Int32.ofNat k_x4))] [] 2 (fun f => rfl) (fun c => ?_) (fun c => ?_)
        · have c9 : ¬ (pa k_x4) = (1 : Int32) := (by simpa [zcmp] using c)
          replace H := H.1 c9
          refine zW_gh 67 [some (.ref 75), none, none, some (.int (0 : Int32)), some (.int (Int32.ofNat k_x4))] [.int (Int32.ofNat k_x4), .ref 77, .int (48 : Int32), .ref 75] 5 (fun f => rfl) ?_
          refine zW_iald rfl (by decide) rfl (by decide) rfl h3 ?_
          refine zW_gh 69 [some (.ref 75), none, none, some (.int (0 : Int32)), some (.int (Int32.ofNat k_x4))] [.int ((48 : Int32) + (pa k_x4)), .ref 75] 1 (fun f => rfl) ?_
          obtain ⟨h7, H⟩ := H
          refine zW_cl rfl rfl rfl rfl rfl (s241 h7 ?_)
          change zW zm_244 72 [some (.ref 75), none, none, some (.int (0 : Int32)), some (.int (Int32.ofNat k_x4))] [] p _ Q
          refine zW_bh (zcmp .le (Int32.ofNat k_x4) (0 : Int32)) 83 77 [some (.ref 75), none, none, some (.int (0 : Int32)), some (.int (Int32.ofNat k_x4))] [] 2 (fun f => rfl) (fun c => ?_) (fun c => ?_)
          · have c9 : k_x4 ≤ 0 := (of_decide_eq_true ((zcN_le (a := k_x4) (b := 0) rfl rfl h_k_x4 (by decide)).symm.trans c))
            replace H := H.1 c9
            refine zW_bh (zcmp .le (Int32.ofNat k_x4) (1 : Int32)) 104 89 [some (.ref 75), none, none, some (.int (0 : Int32)), some (.int (Int32.ofNat k_x4))] [] 3 (fun f => rfl) (fun c => ?_) (fun c => ?_)
            · have c9 : k_x4 ≤ 1 := (of_decide_eq_true ((zcN_le (a := k_x4) (b := 1) rfl rfl h_k_x4 (by decide)).symm.trans c))
              replace H := H.1 c9
              refine zW_inc [some (.ref 75), none, none, some (.int (0 : Int32)), some (.int ((Int32.ofNat k_x4) + Int32.ofInt (-1)))] rfl rfl rfl ?_
              refine zW_gh 15 [some (.ref 75), none, none, some (.int (0 : Int32)), some (.int ((Int32.ofNat k_x4) + Int32.ofInt (-1)))] [] 1 (fun f => rfl) ?_
              exact H
            · have c9 : 1 < k_x4 := (Nat.lt_of_not_le (of_decide_eq_false ((zcN_le (a := k_x4) (b := 1) rfl rfl h_k_x4 (by decide)).symm.trans c)))
              replace H := H.2 c9
              refine zW_gh 92 [some (.ref 75), none, none, some (.int (0 : Int32)), some (.int (Int32.ofNat k_x4))] [.int (94 : Int32), .ref 75] 2 (fun f => rfl) ?_
              obtain ⟨h8, H⟩ := H
              refine zW_cl rfl rfl rfl rfl rfl (s241 h8 ?_)
              change zW zm_244 95 [some (.ref 75), none, none, some (.int (0 : Int32)), some (.int (Int32.ofNat k_x4))] [] p _ Q
              refine zW_gh 101 [some (.ref 75), none, none, some (.int (0 : Int32)), some (.int (Int32.ofNat k_x4))] [.int ((48 : Int32) + (Int32.ofNat k_x4)), .ref 75] 4 (fun f => rfl) ?_
              obtain ⟨h9, H⟩ := H
              refine zW_cl rfl rfl rfl rfl rfl (s241 h9 ?_)
              change zW zm_244 104 [some (.ref 75), none, none, some (.int (0 : Int32)), some (.int (Int32.ofNat k_x4))] [] p _ Q
              refine zW_inc [some (.ref 75), none, none, some (.int (0 : Int32)), some (.int ((Int32.ofNat k_x4) + Int32.ofInt (-1)))] rfl rfl rfl ?_
              refine zW_gh 15 [some (.ref 75), none, none, some (.int (0 : Int32)), some (.int ((Int32.ofNat k_x4) + Int32.ofInt (-1)))] [] 1 (fun f => rfl) ?_
              exact H
          · have c9 : 0 < k_x4 := (Nat.lt_of_not_le (of_decide_eq_false ((zcN_le (a := k_x4) (b := 0) rfl rfl h_k_x4 (by decide)).symm.trans c)))
            replace H := H.2 c9
            refine zW_gh 80 [some (.ref 75), none, none, some (.int (0 : Int32)), some (.int (Int32.ofNat k_x4))] [.int (120 : Int32), .ref 75] 2 (fun f => rfl) ?_
            obtain ⟨h10, H⟩ := H
            refine zW_cl rfl rfl rfl rfl rfl (s241 h10 ?_)
            change zW zm_244 83 [some (.ref 75), none, none, some (.int (0 : Int32)), some (.int (Int32.ofNat k_x4))] [] p _ Q
            refine zW_bh (zcmp .le (Int32.ofNat k_x4) (1 : Int32)) 104 89 [some (.ref 75), none, none, some (.int (0 : Int32)), some (.int (Int32.ofNat k_x4))] [] 3 (fun f => rfl) (fun c => ?_) (fun c => ?_)
            · have c9 : k_x4 ≤ 1 := (of_decide_eq_true ((zcN_le (a := k_x4) (b := 1) rfl rfl h_k_x4 (by decide)).symm.trans c))
              replace H := H.1 c9
              refine zW_inc [some (.ref 75), none, none, some (.int (0 : Int32)), some (.int ((Int32.ofNat k_x4) + Int32.ofInt (-1)))] rfl rfl rfl ?_
              refine zW_gh 15 [some (.ref 75), none, none, some (.int (0 : Int32)), some (.int ((Int32.ofNat k_x4) + Int32.ofInt (-1)))] [] 1 (fun f => rfl) ?_
              exact H
            · have c9 : 1 < k_x4 := (Nat.lt_of_not_le (of_decide_eq_false ((zcN_le (a := k_x4) (b := 1) rfl rfl h_k_x4 (by decide)).symm.trans c)))
              replace H := H.2 c9
              refine zW_gh 92 [some (.ref 75), none, none, some (.int (0 : Int32)), some (.int (Int32.ofNat k_x4))] [.int (94 : Int32), .ref 75] 2 (fun f => rfl) ?_
              obtain ⟨h11, H⟩ := H
              refine zW_cl rfl rfl rfl rfl rfl (s241 h11 ?_)
              change zW zm_244 95 [some (.ref 75), none, none, some (.int (0 : Int32)), some (.int (Int32.ofNat k_x4))] [] p _ Q
              refine zW_gh 101 [some (.ref 75), none, none, some (.int (0 : Int32)), some (.int (Int32.ofNat k_x4))] [.int ((48 : Int32) + (Int32.ofNat k_x4)), .ref 75] 4 (fun f => rfl) ?_
              obtain ⟨h12, H⟩ := H
              refine zW_cl rfl rfl rfl rfl rfl (s241 h12 ?_)
              change zW zm_244 104 [some (.ref 75), none, none, some (.int (0 : Int32)), some (.int (Int32.ofNat k_x4))] [] p _ Q
              refine zW_inc [some (.ref 75), none, none, some (.int (0 : Int32)), some (.int ((Int32.ofNat k_x4) + Int32.ofInt (-1)))] rfl rfl rfl ?_
              refine zW_gh 15 [some (.ref 75), none, none, some (.int (0 : Int32)), some (.int ((Int32.ofNat k_x4) + Int32.ofInt (-1)))] [] 1 (fun f => rfl) ?_
              exact H
        · have c9 : (pa k_x4) = (1 : Int32) := (by simpa [zcmp] using c)
          replace H := H.2 c9
          refine zW_bh (zcmp .ne (Int32.ofNat k_x4) (0 : Int32)) 72 58 [some (.ref 75), none, none, some (.int (0 : Int32)), some (.int (Int32.ofNat k_x4))] [] 2 (fun f => rfl) (fun c => ?_) (fun c => ?_)
          · have c9 : ¬ k_x4 = 0 := (by have c := (zcN_ne (a := k_x4) (b := 0) rfl rfl h_k_x4 (by decide)).symm.trans c; simpa using c)
            replace H := H.1 c9
            refine zW_bh (zcmp .le (Int32.ofNat k_x4) (0 : Int32)) 83 77 [some (.ref 75), none, none, some (.int (0 : Int32)), some (.int (Int32.ofNat k_x4))] [] 2 (fun f => rfl) (fun c => ?_) (fun c => ?_)
            · have c9 : k_x4 ≤ 0 := (of_decide_eq_true ((zcN_le (a := k_x4) (b := 0) rfl rfl h_k_x4 (by decide)).symm.trans c))
              replace H := H.1 c9
              refine zW_bh (zcmp .le (Int32.ofNat k_x4) (1 : Int32)) 104 89 [some (.ref 75), none, none, some (.int (0 : Int32)), some (.int (Int32.ofNat k_x4))] [] 3 (fun f => rfl) (fun c => ?_) (fun c => ?_)
              · have c9 : k_x4 ≤ 1 := (of_decide_eq_true ((zcN_le (a := k_x4) (b := 1) rfl rfl h_k_x4 (by decide)).symm.trans c))
                replace H := H.1 c9
                refine zW_inc [some (.ref 75), none, none, some (.int (0 : Int32)), some (.int ((Int32.ofNat k_x4) + Int32.ofInt (-1)))] rfl rfl rfl ?_
                refine zW_gh 15 [some (.ref 75), none, none, some (.int (0 : Int32)), some (.int ((Int32.ofNat k_x4) + Int32.ofInt (-1)))] [] 1 (fun f => rfl) ?_
                exact H
              · have c9 : 1 < k_x4 := (Nat.lt_of_not_le (of_decide_eq_false ((zcN_le (a := k_x4) (b := 1) rfl rfl h_k_x4 (by decide)).symm.trans c)))
                replace H := H.2 c9
                refine zW_gh 92 [some (.ref 75), none, none, some (.int (0 : Int32)), some (.int (Int32.ofNat k_x4))] [.int (94 : Int32), .ref 75] 2 (fun f => rfl) ?_
                obtain ⟨h13, H⟩ := H
                refine zW_cl rfl rfl rfl rfl rfl (s241 h13 ?_)
                change zW zm_244 95 [some (.ref 75), none, none, some (.int (0 : Int32)), some (.int (Int32.ofNat k_x4))] [] p _ Q
                refine zW_gh 101 [some (.ref 75), none, none, some (.int (0 : Int32)), some (.int (Int32.ofNat k_x4))] [.int ((48 : Int32) + (Int32.ofNat k_x4)), .ref 75] 4 (fun f => rfl) ?_
                obtain ⟨h14, H⟩ := H
                refine zW_cl rfl rfl rfl rfl rfl (s241 h14 ?_)
                change zW zm_244 104 [some (.ref 75), none, none, some (.int (0 : Int32)), some (.int (Int32.ofNat k_x4))] [] p _ Q
                refine zW_inc [some (.ref 75), none, none, some (.int (0 : Int32)), some (.int ((Int32.ofNat k_x4) + Int32.ofInt (-1)))] rfl rfl rfl ?_
                refine zW_gh 15 [some (.ref 75), none, none, some (.int (0 : Int32)), some (.int ((Int32.ofNat k_x4) + Int32.ofInt (-1)))] [] 1 (fun f => rfl) ?_
                exact H
            · have c9 : 0 < k_x4 := (Nat.lt_of_not_le (of_decide_eq_false ((zcN_le (a := k_x4) (b := 0) rfl rfl h_k_x4 (by decide)).symm.trans c)))
              replace H := H.2 c9
              refine zW_gh 80 [some (.ref 75), none, none, some (.int (0 : Int32)), some (.int (Int32.ofNat k_x4))] [.int (120 : Int32), .ref 75] 2 (fun f => rfl) ?_
              obtain ⟨h15, H⟩ := H
              refine zW_cl rfl rfl rfl rfl rfl (s241 h15 ?_)
              change zW zm_244 83 [some (.ref 75), none, none, some (.int (0 : Int32)), some (.int (Int32.ofNat k_x4))] [] p _ Q
              refine zW_bh (zcmp .le (Int32.ofNat k_x4) (1 : Int32)) 104 89 [some (.ref 75), none, none, some (.int (0 : Int32)), some (.int (Int32.ofNat k_x4))] [] 3 (fun f => rfl) (fun c => ?_) (fun c => ?_)
              · have c9 : k_x4 ≤ 1 := (of_decide_eq_true ((zcN_le (a := k_x4) (b := 1) rfl rfl h_k_x4 (by decide)).symm.trans c))
                replace H := H.1 c9
                refine zW_inc [some (.ref 75), none, none, some (.int (0 : Int32)), some (.int ((Int32.ofNat k_x4) + Int32.ofInt (-1)))] rfl rfl rfl ?_
                refine zW_gh 15 [some (.ref 75), none, none, some (.int (0 : Int32)), some (.int ((Int32.ofNat k_x4) + Int32.ofInt (-1)))] [] 1 (fun f => rfl) ?_
                exact H
              · have c9 : 1 < k_x4 := (Nat.lt_of_not_le (of_decide_eq_false ((zcN_le (a := k_x4) (b := 1) rfl rfl h_k_x4 (by decide)).symm.trans c)))
                replace H := H.2 c9
                refine zW_gh 92 [some (.ref 75), none, none, some (.int (0 : Int32)), some (.int (Int32.ofNat k_x4))] [.int (94 : Int32), .ref 75] 2 (fun f => rfl) ?_
                obtain ⟨h16, H⟩ := H
                refine zW_cl rfl rfl rfl rfl rfl (s241 h16 ?_)
                change zW zm_244 95 [some (.ref 75), none, none, some (.int (0 : Int32)), some (.int (Int32.ofNat k_x4))] [] p _ Q
                refine zW_gh 101 [some (.ref 75), none, none, some (.int (0 : Int32)), some (.int (Int32.ofNat k_x4))] [.int ((48 : Int32) + (Int32.ofNat k_x4)), .ref 75] 4 (fun f => rfl) ?_
                obtain ⟨h17, H⟩ := H
                refine zW_cl rfl rfl rfl rfl rfl (s241 h17 ?_)
                change zW zm_244 104 [some (.ref 75), none, none, some (.int (0 : Int32)), some (.int (Int32.ofNat k_x4))] [] p _ Q
                refine zW_inc [some (.ref 75), none, none, some (.int (0 : Int32)), some (.int ((Int32.ofNat k_x4) + Int32.ofInt (-1)))] rfl rfl rfl ?_
                refine zW_gh 15 [some (.ref 75), none, none, some (.int (0 : Int32)), some (.int ((Int32.ofNat k_x4) + Int32.ofInt (-1)))] [] 1 (fun f => rfl) ?_
                exact H
          · have c9 : k_x4 = 0 := (by have c := (zcN_ne (a := k_x4) (b := 0) rfl rfl h_k_x4 (by decide)).symm.trans c; simpa using c)
            replace H := H.2 c9
            refine zW_gh 67 [some (.ref 75), none, none, some (.int (0 : Int32)), some (.int (Int32.ofNat k_x4))] [.int (Int32.ofNat k_x4), .ref 77, .int (48 : Int32), .ref 75] 5 (fun f => rfl) ?_
            refine zW_iald rfl (by decide) rfl (by decide) rfl h3 ?_
            refine zW_gh 69 [some (.ref 75), none, none, some (.int (0 : Int32)), some (.int (Int32.ofNat k_x4))] [.int ((48 : Int32) + (pa k_x4)), .ref 75] 1 (fun f => rfl) ?_
            obtain ⟨h19, H⟩ := H
            refine zW_cl rfl rfl rfl rfl rfl (s241 h19 ?_)
            change zW zm_244 72 [some (.ref 75), none, none, some (.int (0 : Int32)), some (.int (Int32.ofNat k_x4))] [] p _ Q
            refine zW_bh (zcmp .le (Int32.ofNat k_x4) (0 : Int32)) 83 77 [some (.ref 75), none, none, some (.int (0 : Int32)), some (.int (Int32.ofNat k_x4))] [] 2 (fun f => rfl) (fun c => ?_) (fun c => ?_)
            · have c9 : k_x4 ≤ 0 := (of_decide_eq_true ((zcN_le (a := k_x4) (b := 0) rfl rfl h_k_x4 (by decide)).symm.trans c))
              replace H := H.1 c9
              refine zW_bh (zcmp .le (Int32.ofNat k_x4) (1 : Int32)) 104 89 [some (.ref 75), none, none, some (.int (0 : Int32)), some (.int (Int32.ofNat k_x4))] [] 3 (fun f => rfl) (fun c => ?_) (fun c => ?_)
              · have c9 : k_x4 ≤ 1 := (of_decide_eq_true ((zcN_le (a := k_x4) (b := 1) rfl rfl h_k_x4 (by decide)).symm.trans c))
                replace H := H.1 c9
                refine zW_inc [some (.ref 75), none, none, some (.int (0 : Int32)), some (.int ((Int32.ofNat k_x4) + Int32.ofInt (-1)))] rfl rfl rfl ?_
                refine zW_gh 15 [some (.ref 75), none, none, some (.int (0 : Int32)), some (.int ((Int32.ofNat k_x4) + Int32.ofInt (-1)))] [] 1 (fun f => rfl) ?_
                exact H
              · have c9 : 1 < k_x4 := (Nat.lt_of_not_le (of_decide_eq_false ((zcN_le (a := k_x4) (b := 1) rfl rfl h_k_x4 (by decide)).symm.trans c)))
                replace H := H.2 c9
                refine zW_gh 92 [some (.ref 75), none, none, some (.int (0 : Int32)), some (.int (Int32.ofNat k_x4))] [.int (94 : Int32), .ref 75] 2 (fun f => rfl) ?_
                obtain ⟨h20, H⟩ := H
                refine zW_cl rfl rfl rfl rfl rfl (s241 h20 ?_)
                change zW zm_244 95 [some (.ref 75), none, none, some (.int (0 : Int32)), some (.int (Int32.ofNat k_x4))] [] p _ Q
                refine zW_gh 101 [some (.ref 75), none, none, some (.int (0 : Int32)), some (.int (Int32.ofNat k_x4))] [.int ((48 : Int32) + (Int32.ofNat k_x4)), .ref 75] 4 (fun f => rfl) ?_
                obtain ⟨h21, H⟩ := H
                refine zW_cl rfl rfl rfl rfl rfl (s241 h21 ?_)
                change zW zm_244 104 [some (.ref 75), none, none, some (.int (0 : Int32)), some (.int (Int32.ofNat k_x4))] [] p _ Q
                refine zW_inc [some (.ref 75), none, none, some (.int (0 : Int32)), some (.int ((Int32.ofNat k_x4) + Int32.ofInt (-1)))] rfl rfl rfl ?_
                refine zW_gh 15 [some (.ref 75), none, none, some (.int (0 : Int32)), some (.int ((Int32.ofNat k_x4) + Int32.ofInt (-1)))] [] 1 (fun f => rfl) ?_
                exact H
            · have c9 : 0 < k_x4 := (Nat.lt_of_not_le (of_decide_eq_false ((zcN_le (a := k_x4) (b := 0) rfl rfl h_k_x4 (by decide)).symm.trans c)))
              replace H := H.2 c9
              refine zW_gh 80 [some (.ref 75), none, none, some (.int (0 : Int32)), some (.int (Int32.ofNat k_x4))] [.int (120 : Int32), .ref 75] 2 (fun f => rfl) ?_
              obtain ⟨h22, H⟩ := H
              refine zW_cl rfl rfl rfl rfl rfl (s241 h22 ?_)
              change zW zm_244 83 [some (.ref 75), none, none, some (.int (0 : Int32)), some (.int (Int32.ofNat k_x4))] [] p _ Q
              refine zW_bh (zcmp .le (Int32.ofNat k_x4) (1 : Int32)) 104 89 [some (.ref 75), none, none, some (.int (0 : Int32)), some (.int (Int32.ofNat k_x4))] [] 3 (fun f => rfl) (fun c => ?_) (fun c => ?_)
              · have c9 : k_x4 ≤ 1 := (of_decide_eq_true ((zcN_le (a := k_x4) (b := 1) rfl rfl h_k_x4 (by decide)).symm.trans c))
                replace H := H.1 c9
                refine zW_inc [some (.ref 75), none, none, some (.int (0 : Int32)), some (.int ((Int32.ofNat k_x4) + Int32.ofInt (-1)))] rfl rfl rfl ?_
                refine zW_gh 15 [some (.ref 75), none, none, some (.int (0 : Int32)), some (.int ((Int32.ofNat k_x4) + Int32.ofInt (-1)))] [] 1 (fun f => rfl) ?_
                exact H
              · have c9 : 1 < k_x4 := (Nat.lt_of_not_le (of_decide_eq_false ((zcN_le (a := k_x4) (b := 1) rfl rfl h_k_x4 (by decide)).symm.trans c)))
                replace H := H.2 c9
                refine zW_gh 92 [some (.ref 75), none, none, some (.int (0 : Int32)), some (.int (Int32.ofNat k_x4))] [.int (94 : Int32), .ref 75] 2 (fun f => rfl) ?_
                obtain ⟨h23, H⟩ := H
                refine zW_cl rfl rfl rfl rfl rfl (s241 h23 ?_)
                change zW zm_244 95 [some (.ref 75), none, none, some (.int (0 : Int32)), some (.int (Int32.ofNat k_x4))] [] p _ Q
                refine zW_gh 101 [some (.ref 75), none, none, some (.int (0 : Int32)), some (.int (Int32.ofNat k_x4))] [.int ((48 : Int32) + (Int32.ofNat k_x4)), .ref 75] 4 (fun f => rfl) ?_
                obtain ⟨h24, H⟩ := H
                refine zW_cl rfl rfl rfl rfl rfl (s241 h24 ?_)
                change zW zm_244 104 [some (.ref 75), none, none, some (.int (0 : Int32)), some (.int (Int32.ofNat k_x4))] [] p _ Q
                refine zW_inc [some (.ref 75), none, none, some (.int (0 : Int32)), some (.int ((Int32.ofNat k_x4) + Int32.ofInt (-1)))] rfl rfl rfl ?_
                refine zW_gh 15 [some (.ref 75), none, none, some (.int (0 : Int32)), some (.int ((Int32.ofNat k_x4) + Int32.ofInt (-1)))] [] 1 (fun f => rfl) ?_
                exact H
      · have c9 : x3 = 0 := (by have c := (zcN_ne (a := x3) (b := 0) rfl rfl h4 (by decide)).symm.trans c; simpa using c)
        replace H := H.2 c9
        refine zW_gh 37 [some (.ref 75), none, none, some (.int (Int32.ofNat x3)), some (.int (Int32.ofNat k_x4))] [.int (43 : Int32), .ref 75] 2 (fun f => rfl) ?_
        obtain ⟨h25, H⟩ := H
        refine zW_cl rfl rfl rfl rfl rfl (s241 h25 ?_)
        change zW zm_244 40 [some (.ref 75), none, none, some (.int (Int32.ofNat x3)), some (.int (Int32.ofNat k_x4))] [] p _ Q
        refine zW_gh 48 [some (.ref 75), none, none, some (.int (0 : Int32)), some (.int (Int32.ofNat k_x4))] [.int (Int32.ofNat k_x4), .ref 77] 5 (fun f => rfl) ?_
        refine zW_iald rfl (by decide) rfl (by decide) rfl h3 ?_
        refine zW_bh (zcmp .ne (pa k_x4) (1 : Int32)) 58 53 [some (.ref 75), none, none, some (.int (0 : Int32)), some (.int (Int32.ofNat k_x4))] [] 2 (fun f => rfl) (fun c => ?_) (fun c => ?_)
        · have c9 : ¬ (pa k_x4) = (1 : Int32) := (by simpa [zcmp] using c)
          replace H := H.1 c9
          refine zW_gh 67 [some (.ref 75), none, none, some (.int (0 : Int32)), some (.int (Int32.ofNat k_x4))] [.int (Int32.ofNat k_x4), .ref 77, .int (48 : Int32), .ref 75] 5 (fun f => rfl) ?_
          refine zW_iald rfl (by decide) rfl (by decide) rfl h3 ?_
          refine zW_gh 69 [some (.ref 75), none, none, some (.int (0 : Int32)), some (.int (Int32.ofNat k_x4))] [.int ((48 : Int32) + (pa k_x4)), .ref 75] 1 (fun f => rfl) ?_
          obtain ⟨h28, H⟩ := H
          refine zW_cl rfl rfl rfl rfl rfl (s241 h28 ?_)
          change zW zm_244 72 [some (.ref 75), none, none, some (.int (0 : Int32)), some (.int (Int32.ofNat k_x4))] [] p _ Q
          refine zW_bh (zcmp .le (Int32.ofNat k_x4) (0 : Int32)) 83 77 [some (.ref 75), none, none, some (.int (0 : Int32)), some (.int (Int32.ofNat k_x4))] [] 2 (fun f => rfl) (fun c => ?_) (fun c => ?_)
          · have c9 : k_x4 ≤ 0 := (of_decide_eq_true ((zcN_le (a := k_x4) (b := 0) rfl rfl h_k_x4 (by decide)).symm.trans c))
            replace H := H.1 c9
            refine zW_bh (zcmp .le (Int32.ofNat k_x4) (1 : Int32)) 104 89 [some (.ref 75), none, none, some (.int (0 : Int32)), some (.int (Int32.ofNat k_x4))] [] 3 (fun f => rfl) (fun c => ?_) (fun c => ?_)
            · have c9 : k_x4 ≤ 1 := (of_decide_eq_true ((zcN_le (a := k_x4) (b := 1) rfl rfl h_k_x4 (by decide)).symm.trans c))
              replace H := H.1 c9
              refine zW_inc [some (.ref 75), none, none, some (.int (0 : Int32)), some (.int ((Int32.ofNat k_x4) + Int32.ofInt (-1)))] rfl rfl rfl ?_
              refine zW_gh 15 [some (.ref 75), none, none, some (.int (0 : Int32)), some (.int ((Int32.ofNat k_x4) + Int32.ofInt (-1)))] [] 1 (fun f => rfl) ?_
              exact H
            · have c9 : 1 < k_x4 := (Nat.lt_of_not_le (of_decide_eq_false ((zcN_le (a := k_x4) (b := 1) rfl rfl h_k_x4 (by decide)).symm.trans c)))
              replace H := H.2 c9
              refine zW_gh 92 [some (.ref 75), none, none, some (.int (0 : Int32)), some (.int (Int32.ofNat k_x4))] [.int (94 : Int32), .ref 75] 2 (fun f => rfl) ?_
              obtain ⟨h29, H⟩ := H
              refine zW_cl rfl rfl rfl rfl rfl (s241 h29 ?_)
              change zW zm_244 95 [some (.ref 75), none, none, some (.int (0 : Int32)), some (.int (Int32.ofNat k_x4))] [] p _ Q
              refine zW_gh 101 [some (.ref 75), none, none, some (.int (0 : Int32)), some (.int (Int32.ofNat k_x4))] [.int ((48 : Int32) + (Int32.ofNat k_x4)), .ref 75] 4 (fun f => rfl) ?_
              obtain ⟨h30, H⟩ := H
              refine zW_cl rfl rfl rfl rfl rfl (s241 h30 ?_)
              change zW zm_244 104 [some (.ref 75), none, none, some (.int (0 : Int32)), some (.int (Int32.ofNat k_x4))] [] p _ Q
              refine zW_inc [some (.ref 75), none, none, some (.int (0 : Int32)), some (.int ((Int32.ofNat k_x4) + Int32.ofInt (-1)))] rfl rfl rfl ?_
              refine zW_gh 15 [some (.ref 75), none, none, some (.int (0 : Int32)), some (.int ((Int32.ofNat k_x4) + Int32.ofInt (-1)))] [] 1 (fun f => rfl) ?_
              exact H
          · have c9 : 0 < k_x4 := (Nat.lt_of_not_le (of_decide_eq_false ((zcN_le (a := k_x4) (b := 0) rfl rfl h_k_x4 (by decide)).symm.trans c)))
            replace H := H.2 c9
            refine zW_gh 80 [some (.ref 75), none, none, some (.int (0 : Int32)), some (.int (Int32.ofNat k_x4))] [.int (120 : Int32), .ref 75] 2 (fun f => rfl) ?_
            obtain ⟨h31, H⟩ := H
            refine zW_cl rfl rfl rfl rfl rfl (s241 h31 ?_)
            change zW zm_244 83 [some (.ref 75), none, none, some (.int (0 : Int32)), some (.int (Int32.ofNat k_x4))] [] p _ Q
            refine zW_bh (zcmp .le (Int32.ofNat k_x4) (1 : Int32)) 104 89 [some (.ref 75), none, none, some (.int (0 : Int32)), some (.int (Int32.ofNat k_x4))] [] 3 (fun f => rfl) (fun c => ?_) (fun c => ?_)
            · have c9 : k_x4 ≤ 1 := (of_decide_eq_true ((zcN_le (a := k_x4) (b := 1) rfl rfl h_k_x4 (by decide)).symm.trans c))
              replace H := H.1 c9
              refine zW_inc [some (.ref 75), none, none, some (.int (0 : Int32)), some (.int ((Int32.ofNat k_x4) + Int32.ofInt (-1)))] rfl rfl rfl ?_
              refine zW_gh 15 [some (.ref 75), none, none, some (.int (0 : Int32)), some (.int ((Int32.ofNat k_x4) + Int32.ofInt (-1)))] [] 1 (fun f => rfl) ?_
              exact H
            · have c9 : 1 < k_x4 := (Nat.lt_of_not_le (of_decide_eq_false ((zcN_le (a := k_x4) (b := 1) rfl rfl h_k_x4 (by decide)).symm.trans c)))
              replace H := H.2 c9
              refine zW_gh 92 [some (.ref 75), none, none, some (.int (0 : Int32)), some (.int (Int32.ofNat k_x4))] [.int (94 : Int32), .ref 75] 2 (fun f => rfl) ?_
              obtain ⟨h32, H⟩ := H
              refine zW_cl rfl rfl rfl rfl rfl (s241 h32 ?_)
              change zW zm_244 95 [some (.ref 75), none, none, some (.int (0 : Int32)), some (.int (Int32.ofNat k_x4))] [] p _ Q
              refine zW_gh 101 [some (.ref 75), none, none, some (.int (0 : Int32)), some (.int (Int32.ofNat k_x4))] [.int ((48 : Int32) + (Int32.ofNat k_x4)), .ref 75] 4 (fun f => rfl) ?_
              obtain ⟨h33, H⟩ := H
              refine zW_cl rfl rfl rfl rfl rfl (s241 h33 ?_)
              change zW zm_244 104 [some (.ref 75), none, none, some (.int (0 : Int32)), some (.int (Int32.ofNat k_x4))] [] p _ Q
              refine zW_inc [some (.ref 75), none, none, some (.int (0 : Int32)), some (.int ((Int32.ofNat k_x4) + Int32.ofInt (-1)))] rfl rfl rfl ?_
              refine zW_gh 15 [some (.ref 75), none, none, some (.int (0 : Int32)), some (.int ((Int32.ofNat k_x4) + Int32.ofInt (-1)))] [] 1 (fun f => rfl) ?_
              exact H
        · have c9 : (pa k_x4) = (1 : Int32) := (by simpa [zcmp] using c)
          replace H := H.2 c9
          refine zW_bh (zcmp .ne (Int32.ofNat k_x4) (0 : Int32)) 72 58 [some (.ref 75), none, none, some (.int (0 : Int32)), some (.int (Int32.ofNat k_x4))] [] 2 (fun f => rfl) (fun c => ?_) (fun c => ?_)
          · have c9 : ¬ k_x4 = 0 := (by have c := (zcN_ne (a := k_x4) (b := 0) rfl rfl h_k_x4 (by decide)).symm.trans c; simpa using c)
            replace H := H.1 c9
            refine zW_bh (zcmp .le (Int32.ofNat k_x4) (0 : Int32)) 83 77 [some (.ref 75), none, none, some (.int (0 : Int32)), some (.int (Int32.ofNat k_x4))] [] 2 (fun f => rfl) (fun c => ?_) (fun c => ?_)
            · have c9 : k_x4 ≤ 0 := (of_decide_eq_true ((zcN_le (a := k_x4) (b := 0) rfl rfl h_k_x4 (by decide)).symm.trans c))
              replace H := H.1 c9
              refine zW_bh (zcmp .le (Int32.ofNat k_x4) (1 : Int32)) 104 89 [some (.ref 75), none, none, some (.int (0 : Int32)), some (.int (Int32.ofNat k_x4))] [] 3 (fun f => rfl) (fun c => ?_) (fun c => ?_)
              · have c9 : k_x4 ≤ 1 := (of_decide_eq_true ((zcN_le (a := k_x4) (b := 1) rfl rfl h_k_x4 (by decide)).symm.trans c))
                replace H := H.1 c9
                refine zW_inc [some (.ref 75), none, none, some (.int (0 : Int32)), some (.int ((Int32.ofNat k_x4) + Int32.ofInt (-1)))] rfl rfl rfl ?_
                refine zW_gh 15 [some (.ref 75), none, none, some (.int (0 : Int32)), some (.int ((Int32.ofNat k_x4) + Int32.ofInt (-1)))] [] 1 (fun f => rfl) ?_
                exact H
              · have c9 : 1 < k_x4 := (Nat.lt_of_not_le (of_decide_eq_false ((zcN_le (a := k_x4) (b := 1) rfl rfl h_k_x4 (by decide)).symm.trans c)))
                replace H := H.2 c9
                refine zW_gh 92 [some (.ref 75), none, none, some (.int (0 : Int32)), some (.int (Int32.ofNat k_x4))] [.int (94 : Int32), .ref 75] 2 (fun f => rfl) ?_
                obtain ⟨h34, H⟩ := H
                refine zW_cl rfl rfl rfl rfl rfl (s241 h34 ?_)
                change zW zm_244 95 [some (.ref 75), none, none, some (.int (0 : Int32)), some (.int (Int32.ofNat k_x4))] [] p _ Q
                refine zW_gh 101 [some (.ref 75), none, none, some (.int (0 : Int32)), some (.int (Int32.ofNat k_x4))] [.int ((48 : Int32) + (Int32.ofNat k_x4)), .ref 75] 4 (fun f => rfl) ?_
                obtain ⟨h35, H⟩ := H
                refine zW_cl rfl rfl rfl rfl rfl (s241 h35 ?_)
                change zW zm_244 104 [some (.ref 75), none, none, some (.int (0 : Int32)), some (.int (Int32.ofNat k_x4))] [] p _ Q
                refine zW_inc [some (.ref 75), none, none, some (.int (0 : Int32)), some (.int ((Int32.ofNat k_x4) + Int32.ofInt (-1)))] rfl rfl rfl ?_
                refine zW_gh 15 [some (.ref 75), none, none, some (.int (0 : Int32)), some (.int ((Int32.ofNat k_x4) + Int32.ofInt (-1)))] [] 1 (fun f => rfl) ?_
                exact H
            · have c9 : 0 < k_x4 := (Nat.lt_of_not_le (of_decide_eq_false ((zcN_le (a := k_x4) (b := 0) rfl rfl h_k_x4 (by decide)).symm.trans c)))
              replace H := H.2 c9
              refine zW_gh 80 [some (.ref 75), none, none, some (.int (0 : Int32)), some (.int (Int32.ofNat k_x4))] [.int (120 : Int32), .ref 75] 2 (fun f => rfl) ?_
              obtain ⟨h36, H⟩ := H
              refine zW_cl rfl rfl rfl rfl rfl (s241 h36 ?_)
              change zW zm_244 83 [some (.ref 75), none, none, some (.int (0 : Int32)), some (.int (Int32.ofNat k_x4))] [] p _ Q
              refine zW_bh (zcmp .le (Int32.ofNat k_x4) (1 : Int32)) 104 89 [some (.ref 75), none, none, some (.int (0 : Int32)), some (.int (Int32.ofNat k_x4))] [] 3 (fun f => rfl) (fun c => ?_) (fun c => ?_)
              · have c9 : k_x4 ≤ 1 := (of_decide_eq_true ((zcN_le (a := k_x4) (b := 1) rfl rfl h_k_x4 (by decide)).symm.trans c))
                replace H := H.1 c9
                refine zW_inc [some (.ref 75), none, none, some (.int (0 : Int32)), some (.int ((Int32.ofNat k_x4) + Int32.ofInt (-1)))] rfl rfl rfl ?_
                refine zW_gh 15 [some (.ref 75), none, none, some (.int (0 : Int32)), some (.int ((Int32.ofNat k_x4) + Int32.ofInt (-1)))] [] 1 (fun f => rfl) ?_
                exact H
              · have c9 : 1 < k_x4 := (Nat.lt_of_not_le (of_decide_eq_false ((zcN_le (a := k_x4) (b := 1) rfl rfl h_k_x4 (by decide)).symm.trans c)))
                replace H := H.2 c9
                refine zW_gh 92 [some (.ref 75), none, none, some (.int (0 : Int32)), some (.int (Int32.ofNat k_x4))] [.int (94 : Int32), .ref 75] 2 (fun f => rfl) ?_
                obtain ⟨h37, H⟩ := H
                refine zW_cl rfl rfl rfl rfl rfl (s241 h37 ?_)
                change zW zm_244 95 [some (.ref 75), none, none, some (.int (0 : Int32)), some (.int (Int32.ofNat k_x4))] [] p _ Q
                refine zW_gh 101 [some (.ref 75), none, none, some (.int (0 : Int32)), some (.int (Int32.ofNat k_x4))] [.int ((48 : Int32) + (Int32.ofNat k_x4)), .ref 75] 4 (fun f => rfl) ?_
                obtain ⟨h38, H⟩ := H
                refine zW_cl rfl rfl rfl rfl rfl (s241 h38 ?_)
                change zW zm_244 104 [some (.ref 75), none, none, some (.int (0 : Int32)), some (.int (Int32.ofNat k_x4))] [] p _ Q
                refine zW_inc [some (.ref 75), none, none, some (.int (0 : Int32)), some (.int ((Int32.ofNat k_x4) + Int32.ofInt (-1)))] rfl rfl rfl ?_
                refine zW_gh 15 [some (.ref 75), none, none, some (.int (0 : Int32)), some (.int ((Int32.ofNat k_x4) + Int32.ofInt (-1)))] [] 1 (fun f => rfl) ?_
                exact H
          · have c9 : k_x4 = 0 := (by have c := (zcN_ne (a := k_x4) (b := 0) rfl rfl h_k_x4 (by decide)).symm.trans c; simpa using c)
            replace H := H.2 c9
            refine zW_gh 67 [some (.ref 75), none, none, some (.int (0 : Int32)), some (.int (Int32.ofNat k_x4))] [.int (Int32.ofNat k_x4), .ref 77, .int (48 : Int32), .ref 75] 5 (fun f => rfl) ?_
            refine zW_iald rfl (by decide) rfl (by decide) rfl h3 ?_
            refine zW_gh 69 [some (.ref 75), none, none, some (.int (0 : Int32)), some (.int (Int32.ofNat k_x4))] [.int ((48 : Int32) + (pa k_x4)), .ref 75] 1 (fun f => rfl) ?_
            obtain ⟨h40, H⟩ := H
            refine zW_cl rfl rfl rfl rfl rfl (s241 h40 ?_)
            change zW zm_244 72 [some (.ref 75), none, none, some (.int (0 : Int32)), some (.int (Int32.ofNat k_x4))] [] p _ Q
            refine zW_bh (zcmp .le (Int32.ofNat k_x4) (0 : Int32)) 83 77 [some (.ref 75), none, none, some (.int (0 : Int32)), some (.int (Int32.ofNat k_x4))] [] 2 (fun f => rfl) (fun c => ?_) (fun c => ?_)
            · have c9 : k_x4 ≤ 0 := (of_decide_eq_true ((zcN_le (a := k_x4) (b := 0) rfl rfl h_k_x4 (by decide)).symm.trans c))
              replace H := H.1 c9
              refine zW_bh (zcmp .le (Int32.ofNat k_x4) (1 : Int32)) 104 89 [some (.ref 75), none, none, some (.int (0 : Int32)), some (.int (Int32.ofNat k_x4))] [] 3 (fun f => rfl) (fun c => ?_) (fun c => ?_)
              · have c9 : k_x4 ≤ 1 := (of_decide_eq_true ((zcN_le (a := k_x4) (b := 1) rfl rfl h_k_x4 (by decide)).symm.trans c))
                replace H := H.1 c9
                refine zW_inc [some (.ref 75), none, none, some (.int (0 : Int32)), some (.int ((Int32.ofNat k_x4) + Int32.ofInt (-1)))] rfl rfl rfl ?_
                refine zW_gh 15 [some (.ref 75), none, none, some (.int (0 : Int32)), some (.int ((Int32.ofNat k_x4) + Int32.ofInt (-1)))] [] 1 (fun f => rfl) ?_
                exact H
              · have c9 : 1 < k_x4 := (Nat.lt_of_not_le (of_decide_eq_false ((zcN_le (a := k_x4) (b := 1) rfl rfl h_k_x4 (by decide)).symm.trans c)))
                replace H := H.2 c9
                refine zW_gh 92 [some (.ref 75), none, none, some (.int (0 : Int32)), some (.int (Int32.ofNat k_x4))] [.int (94 : Int32), .ref 75] 2 (fun f => rfl) ?_
                obtain ⟨h41, H⟩ := H
                refine zW_cl rfl rfl rfl rfl rfl (s241 h41 ?_)
                change zW zm_244 95 [some (.ref 75), none, none, some (.int (0 : Int32)), some (.int (Int32.ofNat k_x4))] [] p _ Q
                refine zW_gh 101 [some (.ref 75), none, none, some (.int (0 : Int32)), some (.int (Int32.ofNat k_x4))] [.int ((48 : Int32) + (Int32.ofNat k_x4)), .ref 75] 4 (fun f => rfl) ?_
                obtain ⟨h42, H⟩ := H
                refine zW_cl rfl rfl rfl rfl rfl (s241 h42 ?_)
                change zW zm_244 104 [some (.ref 75), none, none, some (.int (0 : Int32)), some (.int (Int32.ofNat k_x4))] [] p _ Q
                refine zW_inc [some (.ref 75), none, none, some (.int (0 : Int32)), some (.int ((Int32.ofNat k_x4) + Int32.ofInt (-1)))] rfl rfl rfl ?_
                refine zW_gh 15 [some (.ref 75), none, none, some (.int (0 : Int32)), some (.int ((Int32.ofNat k_x4) + Int32.ofInt (-1)))] [] 1 (fun f => rfl) ?_
                exact H
            · have c9 : 0 < k_x4 := (Nat.lt_of_not_le (of_decide_eq_false ((zcN_le (a := k_x4) (b := 0) rfl rfl h_k_x4 (by decide)).symm.trans c)))
              replace H := H.2 c9
              refine zW_gh 80 [some (.ref 75), none, none, some (.int (0 : Int32)), some (.int (Int32.ofNat k_x4))] [.int (120 : Int32), .ref 75] 2 (fun f => rfl) ?_
              obtain ⟨h43, H⟩ := H
              refine zW_cl rfl rfl rfl rfl rfl (s241 h43 ?_)
              change zW zm_244 83 [some (.ref 75), none, none, some (.int (0 : Int32)), some (.int (Int32.ofNat k_x4))] [] p _ Q
              refine zW_bh (zcmp .le (Int32.ofNat k_x4) (1 : Int32)) 104 89 [some (.ref 75), none, none, some (.int (0 : Int32)), some (.int (Int32.ofNat k_x4))] [] 3 (fun f => rfl) (fun c => ?_) (fun c => ?_)
              · have c9 : k_x4 ≤ 1 := (of_decide_eq_true ((zcN_le (a := k_x4) (b := 1) rfl rfl h_k_x4 (by decide)).symm.trans c))
                replace H := H.1 c9
                refine zW_inc [some (.ref 75), none, none, some (.int (0 : Int32)), some (.int ((Int32.ofNat k_x4) + Int32.ofInt (-1)))] rfl rfl rfl ?_
                refine zW_gh 15 [some (.ref 75), none, none, some (.int (0 : Int32)), some (.int ((Int32.ofNat k_x4) + Int32.ofInt (-1)))] [] 1 (fun f => rfl) ?_
                exact H
              · have c9 : 1 < k_x4 := (Nat.lt_of_not_le (of_decide_eq_false ((zcN_le (a := k_x4) (b := 1) rfl rfl h_k_x4 (by decide)).symm.trans c)))
                replace H := H.2 c9
                refine zW_gh 92 [some (.ref 75), none, none, some (.int (0 : Int32)), some (.int (Int32.ofNat k_x4))] [.int (94 : Int32), .ref 75] 2 (fun f => rfl) ?_
                obtain ⟨h44, H⟩ := H
                refine zW_cl rfl rfl rfl rfl rfl (s241 h44 ?_)
                change zW zm_244 95 [some (.ref 75), none, none, some (.int (0 : Int32)), some (.int (Int32.ofNat k_x4))] [] p _ Q
                refine zW_gh 101 [some (.ref 75), none, none, some (.int (0 : Int32)), some (.int (Int32.ofNat k_x4))] [.int ((48 : Int32) + (Int32.ofNat k_x4)), .ref 75] 4 (fun f => rfl) ?_
                obtain ⟨h45, H⟩ := H
                refine zW_cl rfl rfl rfl rfl rfl (s241 h45 ?_)
                change zW zm_244 104 [some (.ref 75), none, none, some (.int (0 : Int32)), some (.int (Int32.ofNat k_x4))] [] p _ Q
                refine zW_inc [some (.ref 75), none, none, some (.int (0 : Int32)), some (.int ((Int32.ofNat k_x4) + Int32.ofInt (-1)))] rfl rfl rfl ?_
                refine zW_gh 15 [some (.ref 75), none, none, some (.int (0 : Int32)), some (.int ((Int32.ofNat k_x4) + Int32.ofInt (-1)))] [] 1 (fun f => rfl) ?_
                exact H
set_option maxRecDepth 20000 in
theorem b240 {K : zKt} {code rf rs pr pn ef es : Int32} {bad fin : Bool} {len plc rr rc om : Nat} {m pa pb pc vf vs tx rd ou : Nat → Int32} {w : Nat → Int64} {p : Nat × Nat} {Q : zR → zH → Prop} {a0 : Int32} (H : zT zm_169 [.ref 75, .int a0] p (zh K (code, rf, rs, bad, pr, pn, len, plc, fin, ef, es, rr, rc, om) (m, pa, pb, pc, vf, vs, tx, rd, ou) w) (zK zm_240 5 [some (.ref 75), some (.int a0), none, none, none, none, none] [] p Q)) : zT zm_240 [.ref 75, .int a0] p (zh K (code, rf, rs, bad, pr, pn, len, plc, fin, ef, es, rr, rc, om) (m, pa, pb, pc, vf, vs, tx, rd, ou) w) Q := by
  change zW zm_240 0 [some (.ref 75), some (.int a0), none, none, none, none, none] [] p _ Q
  refine zW_gh 2 [some (.ref 75), some (.int a0), none, none, none, none, none] [.int a0, .ref 75] 2 (fun f => rfl) ?_
  exact zW_cl rfl rfl rfl rfl rfl H
set_option maxRecDepth 20000 in
theorem b240_5 {K : zKt} {code rf rs pr pn ef es : Int32} {bad fin : Bool} {len plc rr rc om : Nat} {m pa pb pc vf vs tx rd ou : Nat → Int32} {w : Nat → Int64} {p : Nat × Nat} {Q : zR → zH → Prop} {x1 rv : Int32} (H : ((rv ≤ (0 : Int32) → zW zm_240 30 [some (.ref 75), none, none, some (.int ((1068 : Int32) * x1)), some (.int (Int32.ofNat 0)), none, none] [] p (zh K (code, rf, rs, bad, pr, pn, len, plc, fin, ef, es, rr, rc, 0) (m, pa, pb, pc, vf, vs, tx, rd, ou) w) Q) ∧ (¬ rv ≤ (0 : Int32) → Q (.inl (some (.int (0 : Int32)))) (zh K (rv, rf, rs, bad, pr, pn, len, plc, fin, ef, es, rr, rc, om) (m, pa, pb, pc, vf, vs, tx, rd, ou) w)))) : zW zm_240 5 [some (.ref 75), some (.int x1), none, none, none, none, none] [.int rv] p (zh K (code, rf, rs, bad, pr, pn, len, plc, fin, ef, es, rr, rc, om) (m, pa, pb, pc, vf, vs, tx, rd, ou) w) Q := by
  refine zW_bh (zcmp .le rv (0 : Int32)) 16 10 [some (.ref 75), some (.int x1), some (.int rv), none, none, none, none] [] 3 (fun f => rfl) (fun c => ?_) (fun c => ?_)
  · have c9 : rv ≤ (0 : Int32) := (of_decide_eq_true c)
    replace H := H.1 c9
    refine zW_gh 24 [some (.ref 75), some (.int x1), some (.int rv), some (.int ((1068 : Int32) * x1)), none, none, none] [.int (0 : Int32), .ref 75] 6 (fun f => rfl) ?_
    refine zW_go (pc' := 27) (L' := [some (.ref 75), some (.int x1), some (.int rv), some (.int ((1068 : Int32) * x1)), none, none, none]) (st' := []) (h' := (va_up (zh K (code, rf, rs, bad, pr, pn, len, plc, fin, ef, es, rr, rc, om) (m, pa, pb, pc, vf, vs, tx, rd, ou) w) 75 (.inr (7, zfl (code, rf, rs, bad, pr, pn, len, plc, fin, ef, es, rr, rc, 0))))) 1 (fun f => rfl) ?_
    refine zW_eq zu_75 ?_
    refine zW_gh 30 [some (.ref 75), some (.int x1), some (.int rv), some (.int ((1068 : Int32) * x1)), some (.int (0 : Int32)), none, none] [] 2 (fun f => rfl) ?_
    refine zW_fg (L' := [some (.ref 75), none, none, some (.int ((1068 : Int32) * x1)), some (.int (0 : Int32)), none, none]) (zle_s _ (zle_n _ (zle_n _ (zle_s _ (zle_s _ (zle_s _ (zle_s _ zle_nil))))))) ?_
    exact H
  · have c9 : ¬ rv ≤ (0 : Int32) := (of_decide_eq_false c)
    replace H := H.2 c9
    refine zW_gh 12 [some (.ref 75), some (.int x1), some (.int rv), none, none, none, none] [.int rv, .ref 75] 2 (fun f => rfl) ?_
    refine zW_cl rfl rfl rfl rfl rfl (s142 ?_)
    change zW zm_240 15 [some (.ref 75), some (.int x1), some (.int rv), none, none, none, none] [.int (0 : Int32)] p _ Q
    exact zW_rh (some (.int (0 : Int32))) 1 (fun f => rfl) H
set_option maxRecDepth 20000 in
theorem b240_30 {K : zKt} {code rf rs pr pn ef es : Int32} {bad fin : Bool} {len plc rr rc om : Nat} {m pa pb pc vf vs tx rd ou : Nat → Int32} {w : Nat → Int64} {p : Nat × Nat} {Q : zR → zH → Prop} {x4 : Nat} {x3 : Int32} (H : (∃ j1, (x3 + (1 : Int32)) = Int32.ofNat j1 ∧ (j1 < 5340 ∧ (((m j1) ≤ (Int32.ofNat x4) → (om < 600 ∧ Q (.inl (some (.int (Int32.ofNat (om + 1))))) (zh K (code, rf, rs, bad, pr, pn, len, plc, fin, ef, es, rr, rc, (om + 1)) (m, pa, pb, pc, vf, vs, tx, rd, (va_up ou om (93 : Int32))) w))) ∧ (¬ (m j1) ≤ (Int32.ofNat x4) → (x4 < 2147483648 ∧ ((¬ x4 = 0 → (om < 600 ∧ zW zm_240 62 [some (.ref 75), none, none, some (.int x3), some (.int (Int32.ofNat x4)), some (.int (Int32.ofNat 0)), none] [] p (zh K (code, rf, rs, bad, pr, pn, len, plc, fin, ef, es, rr, rc, (om + 1)) (m, pa, pb, pc, vf, vs, tx, rd, (va_up ou om (59 : Int32))) w) Q)) ∧ (x4 = 0 → (om < 600 ∧ zW zm_240 62 [some (.ref 75), none, none, some (.int x3), some (.int (Int32.ofNat x4)), some (.int (Int32.ofNat 0)), none] [] p (zh K (code, rf, rs, bad, pr, pn, len, plc, fin, ef, es, rr, rc, (om + 1)) (m, pa, pb, pc, vf, vs, tx, rd, (va_up ou om (91 : Int32))) w) Q))))))))) : zW zm_240 30 [some (.ref 75), none, none, some (.int x3), some (.int (Int32.ofNat x4)), none, none] [] p (zh K (code, rf, rs, bad, pr, pn, len, plc, fin, ef, es, rr, rc, om) (m, pa, pb, pc, vf, vs, tx, rd, ou) w) Q := by
  refine zW_gh 39 [some (.ref 75), none, none, some (.int x3), some (.int (Int32.ofNat x4)), none, none] [.int (x3 + (1 : Int32)), .ref 76, .int (Int32.ofNat x4)] 6 (fun f => rfl) ?_
  obtain ⟨j1, e_j1, H⟩ := H
  obtain ⟨h2, H⟩ := H
  refine zW_iald rfl (by decide) rfl (by decide) e_j1 h2 ?_
  refine zW_bh (zcmp .ge (Int32.ofNat x4) (m j1)) 187 43 [some (.ref 75), none, none, some (.int x3), some (.int (Int32.ofNat x4)), none, none] [] 1 (fun f => rfl) (fun c => ?_) (fun c => ?_)
  · have c9 : (m j1) ≤ (Int32.ofNat x4) := (of_decide_eq_true c)
    replace H := H.1 c9
    refine zW_gh 190 [some (.ref 75), none, none, some (.int x3), some (.int (Int32.ofNat x4)), none, none] [.int (93 : Int32), .ref 75] 2 (fun f => rfl) ?_
    obtain ⟨h3, H⟩ := H
    refine zW_cl rfl rfl rfl rfl rfl (s241 h3 ?_)
    change zW zm_240 193 [some (.ref 75), none, none, some (.int x3), some (.int (Int32.ofNat x4)), none, none] [] p _ Q
    refine zW_gh 197 [some (.ref 75), none, none, some (.int x3), some (.int (Int32.ofNat x4)), none, none] [.int (Int32.ofNat (om + 1))] 2 (fun f => rfl) ?_
    exact zW_rh (some (.int (Int32.ofNat (om + 1)))) 1 (fun f => rfl) H
  · have c9 : ¬ (m j1) ≤ (Int32.ofNat x4) := (of_decide_eq_false c)
    replace H := H.2 c9
    obtain ⟨h4, H⟩ := H
    refine zW_bh (zcmp .ne (Int32.ofNat x4) (0 : Int32)) 54 49 [some (.ref 75), none, none, some (.int x3), some (.int (Int32.ofNat x4)), none, none] [.ref 75] 3 (fun f => rfl) (fun c => ?_) (fun c => ?_)
    · have c9 : ¬ x4 = 0 := (by have c := (zcN_ne (a := x4) (b := 0) rfl rfl h4 (by decide)).symm.trans c; simpa using c)
      replace H := H.1 c9
      refine zW_gh 56 [some (.ref 75), none, none, some (.int x3), some (.int (Int32.ofNat x4)), none, none] [.int (59 : Int32), .ref 75] 1 (fun f => rfl) ?_
      obtain ⟨h5, H⟩ := H
      refine zW_cl rfl rfl rfl rfl rfl (s241 h5 ?_)
      change zW zm_240 59 [some (.ref 75), none, none, some (.int x3), some (.int (Int32.ofNat x4)), none, none] [] p _ Q
      refine zW_gh 62 [some (.ref 75), none, none, some (.int x3), some (.int (Int32.ofNat x4)), some (.int (0 : Int32)), none] [] 2 (fun f => rfl) ?_
      exact H
    · have c9 : x4 = 0 := (by have c := (zcN_ne (a := x4) (b := 0) rfl rfl h4 (by decide)).symm.trans c; simpa using c)
      replace H := H.2 c9
      refine zW_gh 56 [some (.ref 75), none, none, some (.int x3), some (.int (Int32.ofNat x4)), none, none] [.int (91 : Int32), .ref 75] 2 (fun f => rfl) ?_
      obtain ⟨h6, H⟩ := H
      refine zW_cl rfl rfl rfl rfl rfl (s241 h6 ?_)
      change zW zm_240 59 [some (.ref 75), none, none, some (.int x3), some (.int (Int32.ofNat x4)), none, none] [] p _ Q
      refine zW_gh 62 [some (.ref 75), none, none, some (.int x3), some (.int (Int32.ofNat x4)), some (.int (0 : Int32)), none] [] 2 (fun f => rfl) ?_
      exact H
set_option maxRecDepth 20000 in
theorem b240_62 {K : zKt} {code rf rs pr pn ef es : Int32} {bad fin : Bool} {len plc rr rc om : Nat} {m pa pb pc vf vs tx rd ou : Nat → Int32} {w : Nat → Int64} {p : Nat × Nat} {Q : zR → zH → Prop} {x4 x5 : Nat} {x3 : Int32} (H : (∃ j1, (x3 + (2 : Int32)) = Int32.ofNat j1 ∧ (j1 < 5340 ∧ (((m j1) ≤ (Int32.ofNat x5) → zW zm_240 30 [some (.ref 75), none, none, some (.int x3), some (.int (Int32.ofNat (x4 + 1))), none, none] [] p (zh K (code, rf, rs, bad, pr, pn, len, plc, fin, ef, es, rr, rc, om) (m, pa, pb, pc, vf, vs, tx, rd, ou) w) Q) ∧ (¬ (m j1) ≤ (Int32.ofNat x5) → (x5 < 2147483648 ∧ ((x5 ≤ 0 → (∃ j4, (x3 + (0 : Int32)) = Int32.ofNat j4 ∧ (j4 < 5340 ∧ ((¬ (m j4) = (0 : Int32) → ((¬ (m j4) = (1 : Int32) → (∃ j8, (((x3 + (4 : Int32)) + ((8 : Int32) * (Int32.ofNat x4))) + ((2 : Int32) * (Int32.ofNat x5))) = Int32.ofNat j8 ∧ (j8 < 5340 ∧ zT zm_244 [.ref 75, .int (m j4), .int (m j8)] p (zh K (code, rf, rs, bad, pr, pn, len, plc, fin, ef, es, rr, rc, om) (m, pa, pb, pc, vf, vs, tx, rd, ou) w) (zK zm_240 175 [some (.ref 75), none, none, some (.int x3), some (.int (Int32.ofNat x4)), some (.int (Int32.ofNat x5)), none] [] p Q)))) ∧ ((m j4) = (1 : Int32) → (∃ j10, (((x3 + (4 : Int32)) + ((8 : Int32) * (Int32.ofNat x4))) + ((2 : Int32) * (Int32.ofNat x5))) = Int32.ofNat j10 ∧ (j10 < 5340 ∧ (∃ j12, ((((x3 + (4 : Int32)) + ((8 : Int32) * (Int32.ofNat x4))) + ((2 : Int32) * (Int32.ofNat x5))) + (1 : Int32)) = Int32.ofNat j12 ∧ (j12 < 5340 ∧ zT zm_243 [.ref 75, .int (m j10), .int (m j12)] p (zh K (code, rf, rs, bad, pr, pn, len, plc, fin, ef, es, rr, rc, om) (m, pa, pb, pc, vf, vs, tx, rd, ou) w) (zK zm_240 153 [some (.ref 75), none, none, some (.int x3), some (.int (Int32.ofNat x4)), some (.int (Int32.ofNat x5)), none] [] p Q)))))))) ∧ ((m j4) = (0 : Int32) → (∃ j14, (((x3 + (4 : Int32)) + ((8 : Int32) * (Int32.ofNat x4))) + ((2 : Int32) * (Int32.ofNat x5))) = Int32.ofNat j14 ∧ (j14 < 5340 ∧ zT zm_242 [.ref 75, .int (m j14)] p (zh K (code, rf, rs, bad, pr, pn, len, plc, fin, ef, es, rr, rc, om) (m, pa, pb, pc, vf, vs, tx, rd, ou) w) (zK zm_240 118 [some (.ref 75), none, none, some (.int x3), some (.int (Int32.ofNat x4)), some (.int (Int32.ofNat x5)), none] [] p Q)))))))) ∧ (0 < x5 → (om < 600 ∧ (∃ j17, (x3 + (0 : Int32)) = Int32.ofNat j17 ∧ (j17 < 5340 ∧ ((¬ (m j17) = (0 : Int32) → ((¬ (m j17) = (1 : Int32) → (∃ j21, (((x3 + (4 : Int32)) + ((8 : Int32) * (Int32.ofNat x4))) + ((2 : Int32) * (Int32.ofNat x5))) = Int32.ofNat j21 ∧ (j21 < 5340 ∧ zT zm_244 [.ref 75, .int (m j17), .int (m j21)] p (zh K (code, rf, rs, bad, pr, pn, len, plc, fin, ef, es, rr, rc, (om + 1)) (m, pa, pb, pc, vf, vs, tx, rd, (va_up ou om (44 : Int32))) w) (zK zm_240 175 [some (.ref 75), none, none, some (.int x3), some (.int (Int32.ofNat x4)), some (.int (Int32.ofNat x5)), none] [] p Q)))) ∧ ((m j17) = (1 : Int32) → (∃ j23, (((x3 + (4 : Int32)) + ((8 : Int32) * (Int32.ofNat x4))) + ((2 : Int32) * (Int32.ofNat x5))) = Int32.ofNat j23 ∧ (j23 < 5340 ∧ (∃ j25, ((((x3 + (4 : Int32)) + ((8 : Int32) * (Int32.ofNat x4))) + ((2 : Int32) * (Int32.ofNat x5))) + (1 : Int32)) = Int32.ofNat j25 ∧ (j25 < 5340 ∧ zT zm_243 [.ref 75, .int (m j23), .int (m j25)] p (zh K (code, rf, rs, bad, pr, pn, len, plc, fin, ef, es, rr, rc, (om + 1)) (m, pa, pb, pc, vf, vs, tx, rd, (va_up ou om (44 : Int32))) w) (zK zm_240 153 [some (.ref 75), none, none, some (.int x3), some (.int (Int32.ofNat x4)), some (.int (Int32.ofNat x5)), none] [] p Q)))))))) ∧ ((m j17) = (0 : Int32) → (∃ j27, (((x3 + (4 : Int32)) + ((8 : Int32) * (Int32.ofNat x4))) + ((2 : Int32) * (Int32.ofNat x5))) = Int32.ofNat j27 ∧ (j27 < 5340 ∧ zT zm_242 [.ref 75, .int (m j27)] p (zh K (code, rf, rs, bad, pr, pn, len, plc, fin, ef, es, rr, rc, (om + 1)) (m, pa, pb, pc, vf, vs, tx, rd, (va_up ou om (44 : Int32))) w) (zK zm_240 118 [some (.ref 75), none, none, some (.int x3), some (.int (Int32.ofNat x4)), some (.int (Int32.ofNat x5)), none] [] p Q)))))))))))))))) : zW zm_240 62 [some (.ref 75), none, none, some (.int x3), some (.int (Int32.ofNat x4)), some (.int (Int32.ofNat x5)), none] [] p (zh K (code, rf, rs, bad, pr, pn, len, plc, fin, ef, es, rr, rc, om) (m, pa, pb, pc, vf, vs, tx, rd, ou) w) Q := by
  refine zW_gh 71 [some (.ref 75), none, none, some (.int x3), some (.int (Int32.ofNat x4)), some (.int (Int32.ofNat x5)), none] [.int (x3 + (2 : Int32)), .ref 76, .int (Int32.ofNat x5)] 6 (fun f => rfl) ?_
  obtain ⟨j1, e_j1, H⟩ := H
  obtain ⟨h2, H⟩ := H
  refine zW_iald rfl (by decide) rfl (by decide) e_j1 h2 ?_
  refine zW_bh (zcmp .ge (Int32.ofNat x5) (m j1)) 181 75 [some (.ref 75), none, none, some (.int x3), some (.int (Int32.ofNat x4)), some (.int (Int32.ofNat x5)), none] [] 1 (fun f => rfl) (fun c => ?_) (fun c => ?_)
  · have c9 : (m j1) ≤ (Int32.ofNat x5) := (of_decide_eq_true c)
    replace H := H.1 c9
    refine zW_inc [some (.ref 75), none, none, some (.int x3), some (.int ((Int32.ofNat x4) + (1 : Int32))), some (.int (Int32.ofNat x5)), none] rfl rfl rfl ?_
    rw [show ((Int32.ofNat x4) + (1 : Int32)) = Int32.ofNat (x4 + 1) from (zN_a rfl rfl)]
    refine zW_gh 30 [some (.ref 75), none, none, some (.int x3), some (.int (Int32.ofNat (x4 + 1))), some (.int (Int32.ofNat x5)), none] [] 1 (fun f => rfl) ?_
    refine zW_fg (L' := [some (.ref 75), none, none, some (.int x3), some (.int (Int32.ofNat (x4 + 1))), none, none]) (zle_s _ (zle_s _ (zle_s _ (zle_s _ (zle_s _ (zle_n _ (zle_s _ zle_nil))))))) ?_
    exact H
  · have c9 : ¬ (m j1) ≤ (Int32.ofNat x5) := (of_decide_eq_false c)
    replace H := H.2 c9
    obtain ⟨h3, H⟩ := H
    refine zW_bh (zcmp .le (Int32.ofNat x5) (0 : Int32)) 86 80 [some (.ref 75), none, none, some (.int x3), some (.int (Int32.ofNat x4)), some (.int (Int32.ofNat x5)), none] [] 2 (fun f => rfl) (fun c => ?_) (fun c => ?_)
    · have c9 : x5 ≤ 0 := (of_decide_eq_true ((zcN_le (a := x5) (b := 0) rfl rfl h3 (by decide)).symm.trans c))
      replace H := H.1 c9
      refine zW_gh 91 [some (.ref 75), none, none, some (.int x3), some (.int (Int32.ofNat x4)), some (.int (Int32.ofNat x5)), none] [.int (Int32.ofNat x5), .int (Int32.ofNat x4), .int x3] 3 (fun f => rfl) ?_
      refine zW_cl rfl rfl rfl rfl rfl (s151 ?_)
      change zW zm_240 94 [some (.ref 75), none, none, some (.int x3), some (.int (Int32.ofNat x4)), some (.int (Int32.ofNat x5)), none] [.int (((x3 + (4 : Int32)) + ((8 : Int32) * (Int32.ofNat x4))) + ((2 : Int32) * (Int32.ofNat x5)))] p _ Q
      refine zW_gh 103 [some (.ref 75), none, none, some (.int x3), some (.int (Int32.ofNat x4)), some (.int (Int32.ofNat x5)), some (.int (((x3 + (4 : Int32)) + ((8 : Int32) * (Int32.ofNat x4))) + ((2 : Int32) * (Int32.ofNat x5))))] [.int (x3 + (0 : Int32)), .ref 76] 6 (fun f => rfl) ?_
      obtain ⟨j4, e_j4, H⟩ := H
      obtain ⟨h5, H⟩ := H
      refine zW_iald rfl (by decide) rfl (by decide) e_j4 h5 ?_
      refine zW_bh (zcmp .ne (m j4) (0 : Int32)) 121 107 [some (.ref 75), none, none, some (.int x3), some (.int (Int32.ofNat x4)), some (.int (Int32.ofNat x5)), some (.int (((x3 + (4 : Int32)) + ((8 : Int32) * (Int32.ofNat x4))) + ((2 : Int32) * (Int32.ofNat x5))))] [] 1 (fun f => rfl) (fun c => ?_) (fun c => ?_)
      · have c9 : ¬ (m j4) = (0 : Int32) := (by simpa [zcmp] using c)
        replace H := H.1 c9
        refine zW_gh 128 [some (.ref 75), none, none, some (.int x3), some (.int (Int32.ofNat x4)), some (.int (Int32.ofNat x5)), some (.int (((x3 + (4 : Int32)) + ((8 : Int32) * (Int32.ofNat x4))) + ((2 : Int32) * (Int32.ofNat x5))))] [.int (x3 + (0 : Int32)), .ref 76] 5 (fun f => rfl) ?_
        refine zW_iald rfl (by decide) rfl (by decide) e_j4 h5 ?_
        refine zW_bh (zcmp .ne (m j4) (1 : Int32)) 156 133 [some (.ref 75), none, none, some (.int x3), some (.int (Int32.ofNat x4)), some (.int (Int32.ofNat x5)), some (.int (((x3 + (4 : Int32)) + ((8 : Int32) * (Int32.ofNat x4))) + ((2 : Int32) * (Int32.ofNat x5))))] [] 2 (fun f => rfl) (fun c => ?_) (fun c => ?_)
        · have c9 : ¬ (m j4) = (1 : Int32) := (by simpa [zcmp] using c)
          replace H := H.1 c9
          refine zW_gh 164 [some (.ref 75), none, none, some (.int x3), some (.int (Int32.ofNat x4)), some (.int (Int32.ofNat x5)), some (.int (((x3 + (4 : Int32)) + ((8 : Int32) * (Int32.ofNat x4))) + ((2 : Int32) * (Int32.ofNat x5))))] [.int (x3 + (0 : Int32)), .ref 76, .ref 75] 6 (fun f => rfl) ?_
          refine zW_iald rfl (by decide) rfl (by decide) e_j4 h5 ?_
          refine zW_gh 171 [some (.ref 75), none, none, some (.int x3), some (.int (Int32.ofNat x4)), some (.int (Int32.ofNat x5)), some (.int (((x3 + (4 : Int32)) + ((8 : Int32) * (Int32.ofNat x4))) + ((2 : Int32) * (Int32.ofNat x5))))] [.int (((x3 + (4 : Int32)) + ((8 : Int32) * (Int32.ofNat x4))) + ((2 : Int32) * (Int32.ofNat x5))), .ref 76, .int (m j4), .ref 75] 3 (fun f => rfl) ?_
          obtain ⟨j8, e_j8, H⟩ := H
          obtain ⟨h9, H⟩ := H
          refine zW_iald rfl (by decide) rfl (by decide) e_j8 h9 ?_
          refine zW_fg (L' := [some (.ref 75), none, none, some (.int x3), some (.int (Int32.ofNat x4)), some (.int (Int32.ofNat x5)), none]) (zle_s _ (zle_s _ (zle_s _ (zle_s _ (zle_s _ (zle_s _ (zle_n _ zle_nil))))))) ?_
          exact zW_cl rfl rfl rfl rfl rfl H
        · have c9 : (m j4) = (1 : Int32) := (by simpa [zcmp] using c)
          replace H := H.2 c9
          refine zW_gh 140 [some (.ref 75), none, none, some (.int x3), some (.int (Int32.ofNat x4)), some (.int (Int32.ofNat x5)), some (.int (((x3 + (4 : Int32)) + ((8 : Int32) * (Int32.ofNat x4))) + ((2 : Int32) * (Int32.ofNat x5))))] [.int (((x3 + (4 : Int32)) + ((8 : Int32) * (Int32.ofNat x4))) + ((2 : Int32) * (Int32.ofNat x5))), .ref 76, .ref 75] 4 (fun f => rfl) ?_
          obtain ⟨j10, e_j10, H⟩ := H
          obtain ⟨h11, H⟩ := H
          refine zW_iald rfl (by decide) rfl (by decide) e_j10 h11 ?_
          refine zW_gh 149 [some (.ref 75), none, none, some (.int x3), some (.int (Int32.ofNat x4)), some (.int (Int32.ofNat x5)), some (.int (((x3 + (4 : Int32)) + ((8 : Int32) * (Int32.ofNat x4))) + ((2 : Int32) * (Int32.ofNat x5))))] [.int ((((x3 + (4 : Int32)) + ((8 : Int32) * (Int32.ofNat x4))) + ((2 : Int32) * (Int32.ofNat x5))) + (1 : Int32)), .ref 76, .int (m j10), .ref 75] 5 (fun f => rfl) ?_
          obtain ⟨j12, e_j12, H⟩ := H
          obtain ⟨h13, H⟩ := H
          refine zW_iald rfl (by decide) rfl (by decide) e_j12 h13 ?_
          refine zW_fg (L' := [some (.ref 75), none, none, some (.int x3), some (.int (Int32.ofNat x4)), some (.int (Int32.ofNat x5)), none]) (zle_s _ (zle_s _ (zle_s _ (zle_s _ (zle_s _ (zle_s _ (zle_n _ zle_nil))))))) ?_
          exact zW_cl rfl rfl rfl rfl rfl H
      · have c9 : (m j4) = (0 : Int32) := (by simpa [zcmp] using c)
        replace H := H.2 c9
        refine zW_gh 114 [some (.ref 75), none, none, some (.int x3), some (.int (Int32.ofNat x4)), some (.int (Int32.ofNat x5)), some (.int (((x3 + (4 : Int32)) + ((8 : Int32) * (Int32.ofNat x4))) + ((2 : Int32) * (Int32.ofNat x5))))] [.int (((x3 + (4 : Int32)) + ((8 : Int32) * (Int32.ofNat x4))) + ((2 : Int32) * (Int32.ofNat x5))), .ref 76, .ref 75] 4 (fun f => rfl) ?_
        obtain ⟨j14, e_j14, H⟩ := H
        obtain ⟨h15, H⟩ := H
        refine zW_iald rfl (by decide) rfl (by decide) e_j14 h15 ?_
        refine zW_fg (L' := [some (.ref 75), none, none, some (.int x3), some (.int (Int32.ofNat x4)), some (.int (Int32.ofNat x5)), none]) (zle_s _ (zle_s _ (zle_s _ (zle_s _ (zle_s _ (zle_s _ (zle_n _ zle_nil))))))) ?_
        exact zW_cl rfl rfl rfl rfl rfl H
    · have c9 : 0 < x5 := (Nat.lt_of_not_le (of_decide_eq_false ((zcN_le (a := x5) (b := 0) rfl rfl h3 (by decide)).symm.trans c)))
      replace H := H.2 c9
      refine zW_gh 83 [some (.ref 75), none, none, some (.int x3), some (.int (Int32.ofNat x4)), some (.int (Int32.ofNat x5)), none] [.int (44 : Int32), .ref 75] 2 (fun f => rfl) ?_
      obtain ⟨h16, H⟩ := H
      refine zW_cl rfl rfl rfl rfl rfl (s241 h16 ?_)
      change zW zm_240 86 [some (.ref 75), none, none, some (.int x3), some (.int (Int32.ofNat x4)), some (.int (Int32.ofNat x5)), none] [] p _ Q
      refine zW_gh 91 [some (.ref 75), none, none, some (.int x3), some (.int (Int32.ofNat x4)), some (.int (Int32.ofNat x5)), none] [.int (Int32.ofNat x5), .int (Int32.ofNat x4), .int x3] 3 (fun f => rfl) ?_
      refine zW_cl rfl rfl rfl rfl rfl (s151 ?_)
      change zW zm_240 94 [some (.ref 75), none, none, some (.int x3), some (.int (Int32.ofNat x4)), some (.int (Int32.ofNat x5)), none] [.int (((x3 + (4 : Int32)) + ((8 : Int32) * (Int32.ofNat x4))) + ((2 : Int32) * (Int32.ofNat x5)))] p _ Q
      refine zW_gh 103 [some (.ref 75), none, none, some (.int x3), some (.int (Int32.ofNat x4)), some (.int (Int32.ofNat x5)), some (.int (((x3 + (4 : Int32)) + ((8 : Int32) * (Int32.ofNat x4))) + ((2 : Int32) * (Int32.ofNat x5))))] [.int (x3 + (0 : Int32)), .ref 76] 6 (fun f => rfl) ?_
      obtain ⟨j17, e_j17, H⟩ := H
      obtain ⟨h18, H⟩ := H
      refine zW_iald rfl (by decide) rfl (by decide) e_j17 h18 ?_
      refine zW_bh (zcmp .ne (m j17) (0 : Int32)) 121 107 [some (.ref 75), none, none, some (.int x3), some (.int (Int32.ofNat x4)), some (.int (Int32.ofNat x5)), some (.int (((x3 + (4 : Int32)) + ((8 : Int32) * (Int32.ofNat x4))) + ((2 : Int32) * (Int32.ofNat x5))))] [] 1 (fun f => rfl) (fun c => ?_) (fun c => ?_)
      · have c9 : ¬ (m j17) = (0 : Int32) := (by simpa [zcmp] using c)
        replace H := H.1 c9
        refine zW_gh 128 [some (.ref 75), none, none, some (.int x3), some (.int (Int32.ofNat x4)), some (.int (Int32.ofNat x5)), some (.int (((x3 + (4 : Int32)) + ((8 : Int32) * (Int32.ofNat x4))) + ((2 : Int32) * (Int32.ofNat x5))))] [.int (x3 + (0 : Int32)), .ref 76] 5 (fun f => rfl) ?_
        refine zW_iald rfl (by decide) rfl (by decide) e_j17 h18 ?_
        refine zW_bh (zcmp .ne (m j17) (1 : Int32)) 156 133 [some (.ref 75), none, none, some (.int x3), some (.int (Int32.ofNat x4)), some (.int (Int32.ofNat x5)), some (.int (((x3 + (4 : Int32)) + ((8 : Int32) * (Int32.ofNat x4))) + ((2 : Int32) * (Int32.ofNat x5))))] [] 2 (fun f => rfl) (fun c => ?_) (fun c => ?_)
        · have c9 : ¬ (m j17) = (1 : Int32) := (by simpa [zcmp] using c)
          replace H := H.1 c9
          refine zW_gh 164 [some (.ref 75), none, none, some (.int x3), some (.int (Int32.ofNat x4)), some (.int (Int32.ofNat x5)), some (.int (((x3 + (4 : Int32)) + ((8 : Int32) * (Int32.ofNat x4))) + ((2 : Int32) * (Int32.ofNat x5))))] [.int (x3 + (0 : Int32)), .ref 76, .ref 75] 6 (fun f => rfl) ?_
          refine zW_iald rfl (by decide) rfl (by decide) e_j17 h18 ?_
          refine zW_gh 171 [some (.ref 75), none, none, some (.int x3), some (.int (Int32.ofNat x4)), some (.int (Int32.ofNat x5)), some (.int (((x3 + (4 : Int32)) + ((8 : Int32) * (Int32.ofNat x4))) + ((2 : Int32) * (Int32.ofNat x5))))] [.int (((x3 + (4 : Int32)) + ((8 : Int32) * (Int32.ofNat x4))) + ((2 : Int32) * (Int32.ofNat x5))), .ref 76, .int (m j17), .ref 75] 3 (fun f => rfl) ?_
          obtain ⟨j21, e_j21, H⟩ := H
          obtain ⟨h22, H⟩ := H
          refine zW_iald rfl (by decide) rfl (by decide) e_j21 h22 ?_
          refine zW_fg (L' := [some (.ref 75), none, none, some (.int x3), some (.int (Int32.ofNat x4)), some (.int (Int32.ofNat x5)), none]) (zle_s _ (zle_s _ (zle_s _ (zle_s _ (zle_s _ (zle_s _ (zle_n _ zle_nil))))))) ?_
          exact zW_cl rfl rfl rfl rfl rfl H
        · have c9 : (m j17) = (1 : Int32) := (by simpa [zcmp] using c)
          replace H := H.2 c9
          refine zW_gh 140 [some (.ref 75), none, none, some (.int x3), some (.int (Int32.ofNat x4)), some (.int (Int32.ofNat x5)), some (.int (((x3 + (4 : Int32)) + ((8 : Int32) * (Int32.ofNat x4))) + ((2 : Int32) * (Int32.ofNat x5))))] [.int (((x3 + (4 : Int32)) + ((8 : Int32) * (Int32.ofNat x4))) + ((2 : Int32) * (Int32.ofNat x5))), .ref 76, .ref 75] 4 (fun f => rfl) ?_
          obtain ⟨j23, e_j23, H⟩ := H
          obtain ⟨h24, H⟩ := H
          refine zW_iald rfl (by decide) rfl (by decide) e_j23 h24 ?_
          refine zW_gh 149 [some (.ref 75), none, none, some (.int x3), some (.int (Int32.ofNat x4)), some (.int (Int32.ofNat x5)), some (.int (((x3 + (4 : Int32)) + ((8 : Int32) * (Int32.ofNat x4))) + ((2 : Int32) * (Int32.ofNat x5))))] [.int ((((x3 + (4 : Int32)) + ((8 : Int32) * (Int32.ofNat x4))) + ((2 : Int32) * (Int32.ofNat x5))) + (1 : Int32)), .ref 76, .int (m j23), .ref 75] 5 (fun f => rfl) ?_
          obtain ⟨j25, e_j25, H⟩ := H
          obtain ⟨h26, H⟩ := H
          refine zW_iald rfl (by decide) rfl (by decide) e_j25 h26 ?_
          refine zW_fg (L' := [some (.ref 75), none, none, some (.int x3), some (.int (Int32.ofNat x4)), some (.int (Int32.ofNat x5)), none]) (zle_s _ (zle_s _ (zle_s _ (zle_s _ (zle_s _ (zle_s _ (zle_n _ zle_nil))))))) ?_
          exact zW_cl rfl rfl rfl rfl rfl H
      · have c9 : (m j17) = (0 : Int32) := (by simpa [zcmp] using c)
        replace H := H.2 c9
        refine zW_gh 114 [some (.ref 75), none, none, some (.int x3), some (.int (Int32.ofNat x4)), some (.int (Int32.ofNat x5)), some (.int (((x3 + (4 : Int32)) + ((8 : Int32) * (Int32.ofNat x4))) + ((2 : Int32) * (Int32.ofNat x5))))] [.int (((x3 + (4 : Int32)) + ((8 : Int32) * (Int32.ofNat x4))) + ((2 : Int32) * (Int32.ofNat x5))), .ref 76, .ref 75] 4 (fun f => rfl) ?_
        obtain ⟨j27, e_j27, H⟩ := H
        obtain ⟨h28, H⟩ := H
        refine zW_iald rfl (by decide) rfl (by decide) e_j27 h28 ?_
        refine zW_fg (L' := [some (.ref 75), none, none, some (.int x3), some (.int (Int32.ofNat x4)), some (.int (Int32.ofNat x5)), none]) (zle_s _ (zle_s _ (zle_s _ (zle_s _ (zle_s _ (zle_s _ (zle_n _ zle_nil))))))) ?_
        exact zW_cl rfl rfl rfl rfl rfl H
set_option maxRecDepth 20000 in
theorem b240_175 {K : zKt} {code rf rs pr pn ef es : Int32} {bad fin : Bool} {len plc rr rc om : Nat} {m pa pb pc vf vs tx rd ou : Nat → Int32} {w : Nat → Int64} {p : Nat × Nat} {Q : zR → zH → Prop} {x4 x5 : Nat} {x3 : Int32} (H : zW zm_240 62 [some (.ref 75), none, none, some (.int x3), some (.int (Int32.ofNat x4)), some (.int (Int32.ofNat (x5 + 1))), none] [] p (zh K (code, rf, rs, bad, pr, pn, len, plc, fin, ef, es, rr, rc, om) (m, pa, pb, pc, vf, vs, tx, rd, ou) w) Q) : zW zm_240 175 [some (.ref 75), none, none, some (.int x3), some (.int (Int32.ofNat x4)), some (.int (Int32.ofNat x5)), none] [] p (zh K (code, rf, rs, bad, pr, pn, len, plc, fin, ef, es, rr, rc, om) (m, pa, pb, pc, vf, vs, tx, rd, ou) w) Q := by
  refine zW_inc [some (.ref 75), none, none, some (.int x3), some (.int (Int32.ofNat x4)), some (.int ((Int32.ofNat x5) + (1 : Int32))), none] rfl rfl rfl ?_
  rw [show ((Int32.ofNat x5) + (1 : Int32)) = Int32.ofNat (x5 + 1) from (zN_a rfl rfl)]
  refine zW_gh 62 [some (.ref 75), none, none, some (.int x3), some (.int (Int32.ofNat x4)), some (.int (Int32.ofNat (x5 + 1))), none] [] 1 (fun f => rfl) ?_
  exact H
set_option maxRecDepth 20000 in
theorem b240_153 {K : zKt} {code rf rs pr pn ef es : Int32} {bad fin : Bool} {len plc rr rc om : Nat} {m pa pb pc vf vs tx rd ou : Nat → Int32} {w : Nat → Int64} {p : Nat × Nat} {Q : zR → zH → Prop} {x4 x5 : Nat} {x3 : Int32} (H : zW zm_240 62 [some (.ref 75), none, none, some (.int x3), some (.int (Int32.ofNat x4)), some (.int (Int32.ofNat (x5 + 1))), none] [] p (zh K (code, rf, rs, bad, pr, pn, len, plc, fin, ef, es, rr, rc, om) (m, pa, pb, pc, vf, vs, tx, rd, ou) w) Q) : zW zm_240 153 [some (.ref 75), none, none, some (.int x3), some (.int (Int32.ofNat x4)), some (.int (Int32.ofNat x5)), none] [] p (zh K (code, rf, rs, bad, pr, pn, len, plc, fin, ef, es, rr, rc, om) (m, pa, pb, pc, vf, vs, tx, rd, ou) w) Q := by
  refine zW_gh 175 [some (.ref 75), none, none, some (.int x3), some (.int (Int32.ofNat x4)), some (.int (Int32.ofNat x5)), none] [] 1 (fun f => rfl) ?_
  refine zW_inc [some (.ref 75), none, none, some (.int x3), some (.int (Int32.ofNat x4)), some (.int ((Int32.ofNat x5) + (1 : Int32))), none] rfl rfl rfl ?_
  rw [show ((Int32.ofNat x5) + (1 : Int32)) = Int32.ofNat (x5 + 1) from (zN_a rfl rfl)]
  refine zW_gh 62 [some (.ref 75), none, none, some (.int x3), some (.int (Int32.ofNat x4)), some (.int (Int32.ofNat (x5 + 1))), none] [] 1 (fun f => rfl) ?_
  exact H
set_option maxRecDepth 20000 in
theorem b240_118 {K : zKt} {code rf rs pr pn ef es : Int32} {bad fin : Bool} {len plc rr rc om : Nat} {m pa pb pc vf vs tx rd ou : Nat → Int32} {w : Nat → Int64} {p : Nat × Nat} {Q : zR → zH → Prop} {x4 x5 : Nat} {x3 : Int32} (H : zW zm_240 62 [some (.ref 75), none, none, some (.int x3), some (.int (Int32.ofNat x4)), some (.int (Int32.ofNat (x5 + 1))), none] [] p (zh K (code, rf, rs, bad, pr, pn, len, plc, fin, ef, es, rr, rc, om) (m, pa, pb, pc, vf, vs, tx, rd, ou) w) Q) : zW zm_240 118 [some (.ref 75), none, none, some (.int x3), some (.int (Int32.ofNat x4)), some (.int (Int32.ofNat x5)), none] [] p (zh K (code, rf, rs, bad, pr, pn, len, plc, fin, ef, es, rr, rc, om) (m, pa, pb, pc, vf, vs, tx, rd, ou) w) Q := by
  refine zW_gh 175 [some (.ref 75), none, none, some (.int x3), some (.int (Int32.ofNat x4)), some (.int (Int32.ofNat x5)), none] [] 1 (fun f => rfl) ?_
  refine zW_inc [some (.ref 75), none, none, some (.int x3), some (.int (Int32.ofNat x4)), some (.int ((Int32.ofNat x5) + (1 : Int32))), none] rfl rfl rfl ?_
  rw [show ((Int32.ofNat x5) + (1 : Int32)) = Int32.ofNat (x5 + 1) from (zN_a rfl rfl)]
  refine zW_gh 62 [some (.ref 75), none, none, some (.int x3), some (.int (Int32.ofNat x4)), some (.int (Int32.ofNat (x5 + 1))), none] [] 1 (fun f => rfl) ?_
  exact H
theorem b245 {K : zKt} {code rf rs pr pn ef es : Int32} {bad fin : Bool} {len plc rr rc om : Nat} {m pa pb pc vf vs tx rd ou : Nat → Int32} {w : Nat → Int64} {p : Nat × Nat} {Q : zR → zH → Prop} {a0 : Int32} (H : (((zin ((a0).toInt64) (0 : Int64) ((((Int32.ofNat om) - (1 : Int32))).toInt64)) = false → Q (.inl (some (.int (0 : Int32)))) (zh K ((1 : Int32), rf, rs, bad, pr, pn, len, plc, fin, ef, es, rr, rc, om) (m, pa, pb, pc, vf, vs, tx, rd, ou) w)) ∧ ((zin ((a0).toInt64) (0 : Int64) ((((Int32.ofNat om) - (1 : Int32))).toInt64)) = true → ∀ k_a0, k_a0 < 2147483648 → a0 = Int32.ofNat k_a0 → (k_a0 < 600 ∧ Q (.inl (some (.int (ou k_a0)))) (zh K ((0 : Int32), rf, rs, bad, pr, pn, len, plc, fin, ef, es, rr, rc, om) (m, pa, pb, pc, vf, vs, tx, rd, ou) w))))) : zT zm_245 [.ref 75, .int a0] p (zh K (code, rf, rs, bad, pr, pn, len, plc, fin, ef, es, rr, rc, om) (m, pa, pb, pc, vf, vs, tx, rd, ou) w) Q := by
  change zW zm_245 0 [some (.ref 75), some (.int a0)] [] p _ Q
  refine zW_gh 2 [some (.ref 75), some (.int a0)] [.int (0 : Int32), .ref 75] 2 (fun f => rfl) ?_
  refine zW_go (pc' := 5) (L' := [some (.ref 75), some (.int a0)]) (st' := []) (h' := (va_up (zh K (code, rf, rs, bad, pr, pn, len, plc, fin, ef, es, rr, rc, om) (m, pa, pb, pc, vf, vs, tx, rd, ou) w) 75 (.inr (7, zfl ((0 : Int32), rf, rs, bad, pr, pn, len, plc, fin, ef, es, rr, rc, om))))) 1 (fun f => rfl) ?_
  refine zW_eq zu_75 ?_
  refine zW_gh 15 [some (.ref 75), some (.int a0)] [.long ((((Int32.ofNat om) - (1 : Int32))).toInt64), .long (0 : Int64), .long ((a0).toInt64)] 8 (fun f => rfl) ?_
  refine zW_cl rfl rfl rfl rfl rfl (s141 ?_)
  change zW zm_245 18 [some (.ref 75), some (.int a0)] [.int (zbi (zin ((a0).toInt64) (0 : Int64) ((((Int32.ofNat om) - (1 : Int32))).toInt64)))] p _ Q
  refine zW_bh (zcmp .eq (zbi (zin ((a0).toInt64) (0 : Int64) ((((Int32.ofNat om) - (1 : Int32))).toInt64))) (0 : Int32)) 30 21 [some (.ref 75), some (.int a0)] [] 1 (fun f => rfl) (fun c => ?_) (fun c => ?_)
  · have c9 : (zin ((a0).toInt64) (0 : Int64) ((((Int32.ofNat om) - (1 : Int32))).toInt64)) = false := ((Bool.not_eq_true' _).mp ((zcB_eq _).symm.trans c))
    replace H := H.1 c9
    refine zW_gh 32 [some (.ref 75), some (.int a0)] [.int (1 : Int32), .ref 75] 2 (fun f => rfl) ?_
    refine zW_cl rfl rfl rfl rfl rfl (s142 ?_)
    change zW zm_245 35 [some (.ref 75), some (.int a0)] [.int (0 : Int32)] p _ Q
    exact zW_rh (some (.int (0 : Int32))) 1 (fun f => rfl) H
  · have c9 : (zin ((a0).toInt64) (0 : Int64) ((((Int32.ofNat om) - (1 : Int32))).toInt64)) = true := ((Bool.not_eq_false' _).mp ((zcB_eq _).symm.trans c))
    replace H := H.2 c9
    obtain ⟨k_a0, h_k_a0, e_k_a0⟩ := zin_b (by decide) c9
    replace H := H k_a0 h_k_a0 e_k_a0
    subst e_k_a0
    refine zW_gh 26 [some (.ref 75), some (.int (Int32.ofNat k_a0))] [.int (Int32.ofNat k_a0), .ref 84] 3 (fun f => rfl) ?_
    obtain ⟨h1, H⟩ := H
    refine zW_iald rfl (by decide) rfl (by decide) rfl h1 ?_
    refine zW_gh 35 [some (.ref 75), some (.int (Int32.ofNat k_a0))] [.int (ou k_a0)] 1 (fun f => rfl) ?_
    exact zW_rh (some (.int (ou k_a0))) 1 (fun f => rfl) H
