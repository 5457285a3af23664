/-! the reference's small methods -/
def zin (v lo hi : Int64) : Bool := decide (lo ≤ v) && decide (v ≤ hi)
def zslot (x : Int32) : Bool := zin x.toInt64 0 2
def zisr (x : Int32) : Bool := zin x.toInt64 0 3 || (decide (x = 5) || decide (x = 7))
def zpw8 (r : Int32) : Int32 := ((r * r) * (r * r)) * ((r * r) * (r * r))
def zise (r f s : Int32) : Bool := bif decide (r = 1) then zin f.toInt64 (-30000) 30000 && zin s.toInt64 (-30000) 30000 else decide (s = 0) && (bif decide (r = 0) then zin f.toInt64 (-1000000000) 1000000000 else zin f.toInt64 0 (zpw8 r - 1).toInt64)
def zln (b : Nat) (c : Bool) (i k : Nat) : Nat := bif c then b + 4 + 8 * k + 2 * i else b + 4 + 8 * i + 2 * k
def zzr (f s : Int32) : Bool := decide (f = 0) && decide (s = 0)
def zm1 (r : Int32) : Int32 := bif decide (r < 2) then -1 else r - 1
def zisu (r f s : Int32) : Bool := bif decide (r = 0) then decide (s = 0) && (decide (f = 1) || decide (f = -1)) else bif decide (r = 1) then (decide (f = 0) && (decide (s = 1) || decide (s = -1))) || (decide (s = 0) && (decide (f = 1) || decide (f = -1))) else decide (s = 0) && zin f.toInt64 1 (r - 1).toInt64
def zflr (a b : Int64) : Int64 := bif (!decide (a - a / b * b = 0)) && (decide (a < 0) != decide (b < 0)) then a / b - 1 else a / b
def zbad (bad : Bool) (f s bd : Int64) : Bool := bad || (!zin f (-bd) bd || !zin s (-bd) bd)
def zhere (tx : Nat → Int32) (len plc : Nat) (c : Int32) : Bool := decide (plc < len) && decide (tx plc = c)
def zdgh (tx : Nat → Int32) (len plc : Nat) : Bool := decide (plc < len) && zin (tx plc).toInt64 48 57
def zhasE (m : Nat → Int32) (n : Nat) (x y : Int32) : Bool := zin x.toInt64 0 (m (1068 * n + 1) - 1).toInt64 && zin y.toInt64 0 (m (1068 * n + 2) - 1).toInt64
def zareL (m : Nat → Int32) (n : Nat) (c : Bool) (x y : Int32) : Bool := zin x.toInt64 0 (m (1068 * n + (bif c then 2 else 1)) - 1).toInt64 && zin y.toInt64 0 (m (1068 * n + (bif c then 2 else 1)) - 1).toInt64
def zrg (r : Nat) : Prop := r = 0 ∨ r = 1 ∨ r = 2 ∨ r = 3 ∨ r = 5 ∨ r = 7
theorem zrg_lt {r : Nat} (h : zrg r) : r < 2147483648 := by unfold zrg at h; omega
theorem zin_iff {v lo hi : Int64} : zin v lo hi = true ↔ lo.toInt ≤ v.toInt ∧ v.toInt ≤ hi.toInt := by
  simp only [zin, Bool.and_eq_true, decide_eq_true_eq, Int64.le_iff_toInt_le]
theorem zin_not {v lo hi : Int64} : zin v lo hi = false ↔ (v < lo ∨ hi < v) := by
  rw [← Bool.not_eq_true, zin_iff, Int64.lt_iff_toInt_lt, Int64.lt_iff_toInt_lt]
  omega
theorem zNn0 {x : Int32} (h : 0 ≤ x.toInt) : ∃ k, k < 2147483648 ∧ x = Int32.ofNat k := by
  have h2 := Int32.toInt_lt x
  refine ⟨x.toInt.toNat, by omega, ?_⟩
  rw [← Int32.toInt_inj, zN_i (by omega)]
  omega
theorem zNn {x : Int32} (h : ¬ x < 0) : ∃ k, k < 2147483648 ∧ x = Int32.ofNat k := zNn0 (by rw [Int32.lt_iff_toInt_lt, Int32.toInt_zero] at h; omega)
theorem zNn' {x : Int32} (h : 0 ≤ x) : ∃ k, k < 2147483648 ∧ x = Int32.ofNat k := zNn0 (by rw [Int32.le_iff_toInt_le, Int32.toInt_zero] at h; omega)
theorem zin_k {x : Int32} {lo hi : Int64} {l h : Nat} (hl : lo.toInt = (l : Int)) (hh : hi.toInt = (h : Int)) (c : zin x.toInt64 lo hi = true) : ∃ k, (l ≤ k ∧ k ≤ h) ∧ x = Int32.ofNat k := by
  rw [zin_iff, Int32.toInt_toInt64, hl, hh] at c
  obtain ⟨k, hk, rfl⟩ := zNn0 (x := x) (by omega)
  rw [zN_i hk] at c
  exact ⟨k, by omega, rfl⟩
theorem zin_b {x : Int32} {lo hi : Int64} (hl : 0 ≤ lo.toInt) (c : zin x.toInt64 lo hi = true) : ∃ k, k < 2147483648 ∧ x = Int32.ofNat k := by
  rw [zin_iff, Int32.toInt_toInt64] at c
  exact zNn0 (by omega)
theorem zslot_n {x : Int32} (c : zslot x = true) : ∃ k, k < 3 ∧ x = Int32.ofNat k := by
  obtain ⟨k, hk, e⟩ := zin_k (l := 0) (h := 2) (by decide) (by decide) c
  exact ⟨k, by omega, e⟩
theorem zisr_n {x : Int32} (c : zisr x = true) : ∃ k, zrg k ∧ x = Int32.ofNat k := by
  simp only [zisr, Bool.or_eq_true, decide_eq_true_eq] at c
  rcases c with c | rfl | rfl
  · obtain ⟨k, hk, e⟩ := zin_k (l := 0) (h := 3) (by decide) (by decide) c
    exact ⟨k, by unfold zrg; omega, e⟩
  · exact ⟨5, by unfold zrg; omega, rfl⟩
  · exact ⟨7, by unfold zrg; omega, rfl⟩
theorem zhasE_r {m : Nat → Int32} {n : Nat} {x y : Int32} (c : zhasE m n x y = true) : ∃ k, k < 2147483648 ∧ x = Int32.ofNat k := by
  simp only [zhasE, Bool.and_eq_true] at c
  exact zin_b (by decide) c.1
theorem zhasE_c {m : Nat → Int32} {n : Nat} {x y : Int32} (c : zhasE m n x y = true) : ∃ k, k < 2147483648 ∧ y = Int32.ofNat k := by
  simp only [zhasE, Bool.and_eq_true] at c
  exact zin_b (by decide) c.2
theorem zareL_i {m : Nat → Int32} {n : Nat} {b : Bool} {x y : Int32} (c : zareL m n b x y = true) : ∃ k, k < 2147483648 ∧ x = Int32.ofNat k := by
  simp only [zareL, Bool.and_eq_true] at c
  exact zin_b (by decide) c.1
theorem zareL_j {m : Nat → Int32} {n : Nat} {b : Bool} {x y : Int32} (c : zareL m n b x y = true) : ∃ k, k < 2147483648 ∧ y = Int32.ofNat k := by
  simp only [zareL, Bool.and_eq_true] at c
  exact zin_b (by decide) c.2
/-- an answer that is a truth, by its cases -/
theorem zQt {Q : zR → zH → Prop} {h : zH} {b : Bool} (e : b = true) (H : Q (.inl (some (.int (zbi b)))) h) : Q (.inl (some (.int 1))) h := by subst e; exact H
theorem zQf {Q : zR → zH → Prop} {h : zH} {b : Bool} (e : b = false) (H : Q (.inl (some (.int (zbi b)))) h) : Q (.inl (some (.int 0))) h := by subst e; exact H
theorem b141 {K : zKt} {code rf rs pr pn : Int32} {bad : Bool} {J : zJt} {m pa pb pc vf vs : Nat → Int32} {B : zBt} {w : Nat → Int64} {p : Nat × Nat} {Q : zR → zH → Prop} {a0 a1 a2 : Int64} (H : ((a0 < a1 → Q (.inl (some (.int (0 : Int32)))) (zh K (code, rf, rs, bad, pr, pn, J) (m, pa, pb, pc, vf, vs, B) w)) ∧ (¬ a0 < a1 → ((a2 < a0 → Q (.inl (some (.int (0 : Int32)))) (zh K (code, rf, rs, bad, pr, pn, J) (m, pa, pb, pc, vf, vs, B) w)) ∧ (¬ a2 < a0 → Q (.inl (some (.int (1 : Int32)))) (zh K (code, rf, rs, bad, pr, pn, J) (m, pa, pb, pc, vf, vs, B) w)))))) : zT zm_141 [.long a0, .long a1, .long a2] p (zh K (code, rf, rs, bad, pr, pn, J) (m, pa, pb, pc, vf, vs, B) w) Q := by
  change zW zm_141 0 [some (.long a0), none, some (.long a1), none, some (.long a2), none] [] p _ Q
  refine zW_bh (zcmp .lt (lg_cmp a0 a1) (0 : Int32)) 17 6 [some (.long a0), none, some (.long a1), none, some (.long a2), none] [] 4 (fun f => rfl) (fun c => ?_) (fun c => ?_)
  · have c9 : a0 < a1 := (of_decide_eq_true ((zcL_lt _ _).symm.trans c))
    replace H := H.1 c9
    refine zW_gh 18 [some (.long a0), none, some (.long a1), none, some (.long a2), none] [.int (0 : Int32)] 1 (fun f => rfl) ?_
    exact zW_rh (some (.int (0 : Int32))) 1 (fun f => rfl) H
  · have c9 : ¬ a0 < a1 := (of_decide_eq_false ((zcL_lt _ _).symm.trans c))
    replace H := H.2 c9
    refine zW_bh (zcmp .gt (lg_cmp a0 a2) (0 : Int32)) 17 13 [some (.long a0), none, some (.long a1), none, some (.long a2), none] [] 4 (fun f => rfl) (fun c => ?_) (fun c => ?_)
    · have c9 : a2 < a0 := (of_decide_eq_true ((zcL_gt _ _).symm.trans c))
      replace H := H.1 c9
      refine zW_gh 18 [some (.long a0), none, some (.long a1), none, some (.long a2), none] [.int (0 : Int32)] 1 (fun f => rfl) ?_
      exact zW_rh (some (.int (0 : Int32))) 1 (fun f => rfl) H
    · have c9 : ¬ a2 < a0 := (of_decide_eq_false ((zcL_gt _ _).symm.trans c))
      replace H := H.2 c9
      refine zW_gh 18 [some (.long a0), none, some (.long a1), none, some (.long a2), none] [.int (1 : Int32)] 2 (fun f => rfl) ?_
      exact zW_rh (some (.int (1 : Int32))) 1 (fun f => rfl) H
theorem s141 {K : zKt} {code rf rs pr pn : Int32} {bad : Bool} {J : zJt} {m pa pb pc vf vs : Nat → Int32} {B : zBt} {w : Nat → Int64} {p : Nat × Nat} {Q : zR → zH → Prop} {a b c : Int64} (H : Q (.inl (some (.int (zbi (zin a b c))))) (zh K (code, rf, rs, bad, pr, pn, J) (m, pa, pb, pc, vf, vs, B) w)) : zT zm_141 [.long a, .long b, .long c] p (zh K (code, rf, rs, bad, pr, pn, J) (m, pa, pb, pc, vf, vs, B) w) Q := by
  refine b141 ⟨fun h => zQf (zin_not.mpr (Or.inl h)) H, fun h => ⟨fun h2 => zQf (zin_not.mpr (Or.inr h2)) H, fun h2 => zQt ?_ H⟩⟩
  rw [Int64.lt_iff_toInt_lt] at h h2
  rw [zin_iff]
  omega
theorem b140 {K : zKt} {code rf rs pr pn : Int32} {bad : Bool} {J : zJt} {m pa pb pc vf vs : Nat → Int32} {B : zBt} {w : Nat → Int64} {p : Nat × Nat} {Q : zR → zH → Prop} {a0 : Int32} (H : Q (.inl (some (.int (zbi (zin ((a0).toInt64) (0 : Int64) (2 : Int64)))))) (zh K (code, rf, rs, bad, pr, pn, J) (m, pa, pb, pc, vf, vs, B) w)) : zT zm_140 [.int a0] p (zh K (code, rf, rs, bad, pr, pn, J) (m, pa, pb, pc, vf, vs, B) w) Q := by
  change zW zm_140 0 [some (.int a0)] [] p _ Q
  refine zW_gh 6 [some (.int a0)] [.long (2 : Int64), .long (0 : Int64), .long ((a0).toInt64)] 4 (fun f => rfl) ?_
  refine zW_cl rfl rfl rfl rfl rfl (s141 ?_)
  change zW zm_140 9 [some (.int a0)] [.int (zbi (zin ((a0).toInt64) (0 : Int64) (2 : Int64)))] p _ Q
  exact zW_rh (some (.int (zbi (zin ((a0).toInt64) (0 : Int64) (2 : Int64))))) 1 (fun f => by generalize (zin ((a0).toInt64) (0 : Int64) (2 : Int64)) = bb; cases bb <;> rfl) H
theorem s140 {K : zKt} {code rf rs pr pn : Int32} {bad : Bool} {J : zJt} {m pa pb pc vf vs : Nat → Int32} {B : zBt} {w : Nat → Int64} {p : Nat × Nat} {Q : zR → zH → Prop} {a : Int32} (H : Q (.inl (some (.int (zbi (zslot a))))) (zh K (code, rf, rs, bad, pr, pn, J) (m, pa, pb, pc, vf, vs, B) w)) : zT zm_140 [.int a] p (zh K (code, rf, rs, bad, pr, pn, J) (m, pa, pb, pc, vf, vs, B) w) Q := b140 H
theorem b143 {K : zKt} {code rf rs pr pn : Int32} {bad : Bool} {J : zJt} {m pa pb pc vf vs : Nat → Int32} {B : zBt} {w : Nat → Int64} {p : Nat × Nat} {Q : zR → zH → Prop} {a0 : Int32} (H : (((zin ((a0).toInt64) (0 : Int64) (3 : Int64)) = true → ∀ k_a0, 0 ≤ k_a0 ∧ k_a0 ≤ 3 → a0 = Int32.ofNat k_a0 → Q (.inl (some (.int (1 : Int32)))) (zh K (code, rf, rs, bad, pr, pn, J) (m, pa, pb, pc, vf, vs, B) w)) ∧ ((zin ((a0).toInt64) (0 : Int64) (3 : Int64)) = false → ((a0 = (5 : Int32) → Q (.inl (some (.int (1 : Int32)))) (zh K (code, rf, rs, bad, pr, pn, J) (m, pa, pb, pc, vf, vs, B) w)) ∧ (¬ a0 = (5 : Int32) → ((¬ a0 = (7 : Int32) → Q (.inl (some (.int (0 : Int32)))) (zh K (code, rf, rs, bad, pr, pn, J) (m, pa, pb, pc, vf, vs, B) w)) ∧ (a0 = (7 : Int32) → Q (.inl (some (.int (1 : Int32)))) (zh K (code, rf, rs, bad, pr, pn, J) (m, pa, pb, pc, vf, vs, B) w)))))))) : zT zm_143 [.int a0] p (zh K (code, rf, rs, bad, pr, pn, J) (m, pa, pb, pc, vf, vs, B) w) Q := by
  change zW zm_143 0 [some (.int a0)] [] p _ Q
  refine zW_gh 6 [some (.int a0)] [.long (3 : Int64), .long (0 : Int64), .long ((a0).toInt64)] 4 (fun f => rfl) ?_
  refine zW_cl rfl rfl rfl rfl rfl (s141 ?_)
  change zW zm_143 9 [some (.int a0)] [.int (zbi (zin ((a0).toInt64) (0 : Int64) (3 : Int64)))] p _ Q
  refine zW_bh (zcmp .ne (zbi (zin ((a0).toInt64) (0 : Int64) (3 : Int64))) (0 : Int32)) 23 12 [some (.int a0)] [] 1 (fun f => rfl) (fun c => ?_) (fun c => ?_)
  · have c9 : (zin ((a0).toInt64) (0 : Int64) (3 : Int64)) = true := ((zcB_ne _).symm.trans c)
    replace H := H.1 c9
    obtain ⟨k_a0, h_k_a0, e_k_a0⟩ := zin_k (l := 0) (h := 3) (by decide) (by decide) c9
    replace H := H k_a0 h_k_a0 e_k_a0
    subst e_k_a0
    refine zW_gh 28 [some (.int (Int32.ofNat k_a0))] [.int (1 : Int32)] 2 (fun f => rfl) ?_
    exact zW_rh (some (.int (1 : Int32))) 1 (fun f => rfl) H
  · have c9 : (zin ((a0).toInt64) (0 : Int64) (3 : Int64)) = false := ((zcB_ne _).symm.trans c)
    replace H := H.2 c9
    refine zW_bh (zcmp .eq a0 (5 : Int32)) 23 17 [some (.int a0)] [] 3 (fun f => rfl) (fun c => ?_) (fun c => ?_)
    · have c9 : a0 = (5 : Int32) := (of_decide_eq_true c)
      replace H := H.1 c9
      refine zW_gh 28 [some (.int a0)] [.int (1 : Int32)] 2 (fun f => rfl) ?_
      exact zW_rh (some (.int (1 : Int32))) 1 (fun f => rfl) H
    · have c9 : ¬ a0 = (5 : Int32) := (of_decide_eq_false c)
      replace H := H.2 c9
      refine zW_bh (zcmp .ne a0 (7 : Int32)) 27 23 [some (.int a0)] [] 3 (fun f => rfl) (fun c => ?_) (fun c => ?_)
      · have c9 : ¬ a0 = (7 : Int32) := (by simpa [zcmp] using c)
        replace H := H.1 c9
        refine zW_gh 28 [some (.int a0)] [.int (0 : Int32)] 1 (fun f => rfl) ?_
        exact zW_rh (some (.int (0 : Int32))) 1 (fun f => rfl) H
      · have c9 : a0 = (7 : Int32) := (by simpa [zcmp] using c)
        replace H := H.2 c9
        refine zW_gh 28 [some (.int a0)] [.int (1 : Int32)] 2 (fun f => rfl) ?_
        exact zW_rh (some (.int (1 : Int32))) 1 (fun f => rfl) H
theorem s143 {K : zKt} {code rf rs pr pn : Int32} {bad : Bool} {J : zJt} {m pa pb pc vf vs : Nat → Int32} {B : zBt} {w : Nat → Int64} {p : Nat × Nat} {Q : zR → zH → Prop} {a : Int32} (H : Q (.inl (some (.int (zbi (zisr a))))) (zh K (code, rf, rs, bad, pr, pn, J) (m, pa, pb, pc, vf, vs, B) w)) : zT zm_143 [.int a] p (zh K (code, rf, rs, bad, pr, pn, J) (m, pa, pb, pc, vf, vs, B) w) Q := by
  refine b143 ?_
  repeat' first | (refine ⟨?_, ?_⟩) | (intro _)
  all_goals first | omega | exact zQt (by simp_all [zisr]) H | exact zQf (by simp_all [zisr]) H
theorem b142 {K : zKt} {code rf rs pr pn : Int32} {bad : Bool} {J : zJt} {m pa pb pc vf vs : Nat → Int32} {B : zBt} {w : Nat → Int64} {p : Nat × Nat} {Q : zR → zH → Prop} {a0 : Int32} (H : Q (.inl (some (.int (0 : Int32)))) (zh K (a0, rf, rs, bad, pr, pn, J) (m, pa, pb, pc, vf, vs, B) w)) : zT zm_142 [.ref 75, .int a0] p (zh K (code, rf, rs, bad, pr, pn, J) (m, pa, pb, pc, vf, vs, B) w) Q := by
  change zW zm_142 0 [some (.ref 75), some (.int a0)] [] p _ Q
  refine zW_gh 2 [some (.ref 75), some (.int a0)] [.int a0, .ref 75] 2 (fun f => rfl) ?_
  refine zW_go (pc' := 5) (L' := [some (.ref 75), some (.int a0)]) (st' := []) (h' := (va_up (zh K (code, rf, rs, bad, pr, pn, J) (m, pa, pb, pc, vf, vs, B) w) 75 (.inr (7, zfl (a0, rf, rs, bad, pr, pn, J))))) 1 (fun f => rfl) ?_
  refine zW_eq zu_75 ?_
  refine zW_gh 6 [some (.ref 75), some (.int a0)] [.int (0 : Int32)] 1 (fun f => rfl) ?_
  exact zW_rh (some (.int (0 : Int32))) 1 (fun f => rfl) H
theorem s142 {K : zKt} {code rf rs pr pn : Int32} {bad : Bool} {J : zJt} {m pa pb pc vf vs : Nat → Int32} {B : zBt} {w : Nat → Int64} {p : Nat × Nat} {Q : zR → zH → Prop} {a : Int32} (H : Q (.inl (some (.int 0))) (zh K (a, rf, rs, bad, pr, pn, J) (m, pa, pb, pc, vf, vs, B) w)) : zT zm_142 [.ref 75, .int a] p (zh K (code, rf, rs, bad, pr, pn, J) (m, pa, pb, pc, vf, vs, B) w) Q := b142 H
theorem b150 {K : zKt} {code rf rs pr pn : Int32} {bad : Bool} {J : zJt} {m pa pb pc vf vs : Nat → Int32} {B : zBt} {w : Nat → Int64} {p : Nat × Nat} {Q : zR → zH → Prop} {a0 : Int32} (H : Q (.inl (some (.int (((a0 * a0) * (a0 * a0)) * ((a0 * a0) * (a0 * a0)))))) (zh K (code, rf, rs, bad, pr, pn, J) (m, pa, pb, pc, vf, vs, B) w)) : zT zm_150 [.int a0] p (zh K (code, rf, rs, bad, pr, pn, J) (m, pa, pb, pc, vf, vs, B) w) Q := by
  change zW zm_150 0 [some (.int a0), none] [] p _ Q
  refine zW_gh 9 [some (.int a0), some (.int ((a0 * a0) * (a0 * a0)))] [.int ((a0 * a0) * (a0 * a0))] 9 (fun f => rfl) ?_
  refine zW_gh 11 [some (.int a0), some (.int ((a0 * a0) * (a0 * a0)))] [.int (((a0 * a0) * (a0 * a0)) * ((a0 * a0) * (a0 * a0)))] 2 (fun f => rfl) ?_
  exact zW_rh (some (.int (((a0 * a0) * (a0 * a0)) * ((a0 * a0) * (a0 * a0))))) 1 (fun f => rfl) H
theorem s150 {K : zKt} {code rf rs pr pn : Int32} {bad : Bool} {J : zJt} {m pa pb pc vf vs : Nat → Int32} {B : zBt} {w : Nat → Int64} {p : Nat × Nat} {Q : zR → zH → Prop} {a : Int32} (H : Q (.inl (some (.int (zpw8 a)))) (zh K (code, rf, rs, bad, pr, pn, J) (m, pa, pb, pc, vf, vs, B) w)) : zT zm_150 [.int a] p (zh K (code, rf, rs, bad, pr, pn, J) (m, pa, pb, pc, vf, vs, B) w) Q := b150 H
theorem b149 {K : zKt} {code rf rs pr pn : Int32} {bad : Bool} {J : zJt} {m pa pb pc vf vs : Nat → Int32} {B : zBt} {w : Nat → Int64} {p : Nat × Nat} {Q : zR → zH → Prop} {a0 a1 a2 : Int32} (H : ((¬ a0 = (1 : Int32) → ((¬ a2 = (0 : Int32) → Q (.inl (some (.int (0 : Int32)))) (zh K (code, rf, rs, bad, pr, pn, J) (m, pa, pb, pc, vf, vs, B) w)) ∧ (a2 = (0 : Int32) → ((¬ a0 = (0 : Int32) → (((zin ((a1).toInt64) (0 : Int64) ((((((a0 * a0) * (a0 * a0)) * ((a0 * a0) * (a0 * a0))) - (1 : Int32))).toInt64)) = false → Q (.inl (some (.int (0 : Int32)))) (zh K (code, rf, rs, bad, pr, pn, J) (m, pa, pb, pc, vf, vs, B) w)) ∧ ((zin ((a1).toInt64) (0 : Int64) ((((((a0 * a0) * (a0 * a0)) * ((a0 * a0) * (a0 * a0))) - (1 : Int32))).toInt64)) = true → ∀ k_a1, k_a1 < 2147483648 → a1 = Int32.ofNat k_a1 → Q (.inl (some (.int (1 : Int32)))) (zh K (code, rf, rs, bad, pr, pn, J) (m, pa, pb, pc, vf, vs, B) w)))) ∧ (a0 = (0 : Int32) → (((zin ((a1).toInt64) (-1000000000 : Int64) (1000000000 : Int64)) = false → Q (.inl (some (.int (0 : Int32)))) (zh K (code, rf, rs, bad, pr, pn, J) (m, pa, pb, pc, vf, vs, B) w)) ∧ ((zin ((a1).toInt64) (-1000000000 : Int64) (1000000000 : Int64)) = true → Q (.inl (some (.int (1 : Int32)))) (zh K (code, rf, rs, bad, pr, pn, J) (m, pa, pb, pc, vf, vs, B) w)))))))) ∧ (a0 = (1 : Int32) → (((zin ((a1).toInt64) (-30000 : Int64) (30000 : Int64)) = false → Q (.inl (some (.int (0 : Int32)))) (zh K (code, rf, rs, bad, pr, pn, J) (m, pa, pb, pc, vf, vs, B) w)) ∧ ((zin ((a1).toInt64) (-30000 : Int64) (30000 : Int64)) = true → (((zin ((a2).toInt64) (-30000 : Int64) (30000 : Int64)) = false → Q (.inl (some (.int (0 : Int32)))) (zh K (code, rf, rs, bad, pr, pn, J) (m, pa, pb, pc, vf, vs, B) w)) ∧ ((zin ((a2).toInt64) (-30000 : Int64) (30000 : Int64)) = true → Q (.inl (some (.int (1 : Int32)))) (zh K (code, rf, rs, bad, pr, pn, J) (m, pa, pb, pc, vf, vs, B) w)))))))) : zT zm_149 [.int a0, .int a1, .int a2] p (zh K (code, rf, rs, bad, pr, pn, J) (m, pa, pb, pc, vf, vs, B) w) Q := by
  change zW zm_149 0 [some (.int a0), some (.int a1), some (.int a2)] [] p _ Q
  refine zW_bh (zcmp .ne a0 (1 : Int32)) 39 5 [some (.int a0), some (.int a1), some (.int a2)] [] 3 (fun f => rfl) (fun c => ?_) (fun c => ?_)
  · have c9 : ¬ a0 = (1 : Int32) := (by simpa [zcmp] using c)
    replace H := H.1 c9
    refine zW_bh (zcmp .ne a2 (0 : Int32)) 84 43 [some (.int a0), some (.int a1), some (.int a2)] [] 2 (fun f => rfl) (fun c => ?_) (fun c => ?_)
    · have c9 : ¬ a2 = (0 : Int32) := (by simpa [zcmp] using c)
      replace H := H.1 c9
      refine zW_gh 85 [some (.int a0), some (.int a1), some (.int a2)] [.int (0 : Int32)] 1 (fun f => rfl) ?_
      exact zW_rh (some (.int (0 : Int32))) 1 (fun f => rfl) H
    · have c9 : a2 = (0 : Int32) := (by simpa [zcmp] using c)
      replace H := H.2 c9
      refine zW_bh (zcmp .ne a0 (0 : Int32)) 64 47 [some (.int a0), some (.int a1), some (.int a2)] [] 2 (fun f => rfl) (fun c => ?_) (fun c => ?_)
      · have c9 : ¬ a0 = (0 : Int32) := (by simpa [zcmp] using c)
        replace H := H.1 c9
        refine zW_gh 68 [some (.int a0), some (.int a1), some (.int a2)] [.int a0, .long (0 : Int64), .long ((a1).toInt64)] 4 (fun f => rfl) ?_
        refine zW_cl rfl rfl rfl rfl rfl (s150 ?_)
        change zW zm_149 71 [some (.int a0), some (.int a1), some (.int a2)] [.int (((a0 * a0) * (a0 * a0)) * ((a0 * a0) * (a0 * a0))), .long (0 : Int64), .long ((a1).toInt64)] p _ Q
        refine zW_gh 74 [some (.int a0), some (.int a1), some (.int a2)] [.long ((((((a0 * a0) * (a0 * a0)) * ((a0 * a0) * (a0 * a0))) - (1 : Int32))).toInt64), .long (0 : Int64), .long ((a1).toInt64)] 3 (fun f => rfl) ?_
        refine zW_cl rfl rfl rfl rfl rfl (s141 ?_)
        change zW zm_149 77 [some (.int a0), some (.int a1), some (.int a2)] [.int (zbi (zin ((a1).toInt64) (0 : Int64) ((((((a0 * a0) * (a0 * a0)) * ((a0 * a0) * (a0 * a0))) - (1 : Int32))).toInt64)))] p _ Q
        refine zW_bh (zcmp .eq (zbi (zin ((a1).toInt64) (0 : Int64) ((((((a0 * a0) * (a0 * a0)) * ((a0 * a0) * (a0 * a0))) - (1 : Int32))).toInt64))) (0 : Int32)) 84 80 [some (.int a0), some (.int a1), some (.int a2)] [] 1 (fun f => rfl) (fun c => ?_) (fun c => ?_)
        · have c9 : (zin ((a1).toInt64) (0 : Int64) ((((((a0 * a0) * (a0 * a0)) * ((a0 * a0) * (a0 * a0))) - (1 : Int32))).toInt64)) = false := ((Bool.not_eq_true' _).mp ((zcB_eq _).symm.trans c))
          replace H := H.1 c9
          refine zW_gh 85 [some (.int a0), some (.int a1), some (.int a2)] [.int (0 : Int32)] 1 (fun f => rfl) ?_
          exact zW_rh (some (.int (0 : Int32))) 1 (fun f => rfl) H
        · have c9 : (zin ((a1).toInt64) (0 : Int64) ((((((a0 * a0) * (a0 * a0)) * ((a0 * a0) * (a0 * a0))) - (1 : Int32))).toInt64)) = true := ((Bool.not_eq_false' _).mp ((zcB_eq _).symm.trans c))
          replace H := H.2 c9
          obtain ⟨k_a1, h_k_a1, e_k_a1⟩ := zin_b (by decide) c9
          replace H := H k_a1 h_k_a1 e_k_a1
          subst e_k_a1
          refine zW_gh 85 [some (.int a0), some (.int (Int32.ofNat k_a1)), some (.int a2)] [.int (1 : Int32)] 2 (fun f => rfl) ?_
          exact zW_rh (some (.int (1 : Int32))) 1 (fun f => rfl) H
      · have c9 : a0 = (0 : Int32) := (by simpa [zcmp] using c)
        replace H := H.2 c9
        refine zW_gh 55 [some (.int a0), some (.int a1), some (.int a2)] [.long (1000000000 : Int64), .long (-1000000000 : Int64), .long ((a1).toInt64)] 4 (fun f => rfl) ?_
        refine zW_cl rfl rfl rfl rfl rfl (s141 ?_)
        change zW zm_149 58 [some (.int a0), some (.int a1), some (.int a2)] [.int (zbi (zin ((a1).toInt64) (-1000000000 : Int64) (1000000000 : Int64)))] p _ Q
        refine zW_bh (zcmp .eq (zbi (zin ((a1).toInt64) (-1000000000 : Int64) (1000000000 : Int64))) (0 : Int32)) 84 61 [some (.int a0), some (.int a1), some (.int a2)] [] 1 (fun f => rfl) (fun c => ?_) (fun c => ?_)
        · have c9 : (zin ((a1).toInt64) (-1000000000 : Int64) (1000000000 : Int64)) = false := ((Bool.not_eq_true' _).mp ((zcB_eq _).symm.trans c))
          replace H := H.1 c9
          refine zW_gh 85 [some (.int a0), some (.int a1), some (.int a2)] [.int (0 : Int32)] 1 (fun f => rfl) ?_
          exact zW_rh (some (.int (0 : Int32))) 1 (fun f => rfl) H
        · have c9 : (zin ((a1).toInt64) (-1000000000 : Int64) (1000000000 : Int64)) = true := ((Bool.not_eq_false' _).mp ((zcB_eq _).symm.trans c))
          replace H := H.2 c9
          refine zW_gh 85 [some (.int a0), some (.int a1), some (.int a2)] [.int (1 : Int32)] 3 (fun f => rfl) ?_
          exact zW_rh (some (.int (1 : Int32))) 1 (fun f => rfl) H
  · have c9 : a0 = (1 : Int32) := (by simpa [zcmp] using c)
    replace H := H.2 c9
    refine zW_gh 13 [some (.int a0), some (.int a1), some (.int a2)] [.long (30000 : Int64), .long (-30000 : Int64), .long ((a1).toInt64)] 4 (fun f => rfl) ?_
    refine zW_cl rfl rfl rfl rfl rfl (s141 ?_)
    change zW zm_149 16 [some (.int a0), some (.int a1), some (.int a2)] [.int (zbi (zin ((a1).toInt64) (-30000 : Int64) (30000 : Int64)))] p _ Q
    refine zW_bh (zcmp .eq (zbi (zin ((a1).toInt64) (-30000 : Int64) (30000 : Int64))) (0 : Int32)) 37 19 [some (.int a0), some (.int a1), some (.int a2)] [] 1 (fun f => rfl) (fun c => ?_) (fun c => ?_)
    · have c9 : (zin ((a1).toInt64) (-30000 : Int64) (30000 : Int64)) = false := ((Bool.not_eq_true' _).mp ((zcB_eq _).symm.trans c))
      replace H := H.1 c9
      refine zW_gh 38 [some (.int a0), some (.int a1), some (.int a2)] [.int (0 : Int32)] 1 (fun f => rfl) ?_
      exact zW_rh (some (.int (0 : Int32))) 1 (fun f => rfl) H
    · have c9 : (zin ((a1).toInt64) (-30000 : Int64) (30000 : Int64)) = true := ((Bool.not_eq_false' _).mp ((zcB_eq _).symm.trans c))
      replace H := H.2 c9
      refine zW_gh 27 [some (.int a0), some (.int a1), some (.int a2)] [.long (30000 : Int64), .long (-30000 : Int64), .long ((a2).toInt64)] 4 (fun f => rfl) ?_
      refine zW_cl rfl rfl rfl rfl rfl (s141 ?_)
      change zW zm_149 30 [some (.int a0), some (.int a1), some (.int a2)] [.int (zbi (zin ((a2).toInt64) (-30000 : Int64) (30000 : Int64)))] p _ Q
      refine zW_bh (zcmp .eq (zbi (zin ((a2).toInt64) (-30000 : Int64) (30000 : Int64))) (0 : Int32)) 37 33 [some (.int a0), some (.int a1), some (.int a2)] [] 1 (fun f => rfl) (fun c => ?_) (fun c => ?_)
      · have c9 : (zin ((a2).toInt64) (-30000 : Int64) (30000 : Int64)) = false := ((Bool.not_eq_true' _).mp ((zcB_eq _).symm.trans c))
        replace H := H.1 c9
        refine zW_gh 38 [some (.int a0), some (.int a1), some (.int a2)] [.int (0 : Int32)] 1 (fun f => rfl) ?_
        exact zW_rh (some (.int (0 : Int32))) 1 (fun f => rfl) H
      · have c9 : (zin ((a2).toInt64) (-30000 : Int64) (30000 : Int64)) = true := ((Bool.not_eq_false' _).mp ((zcB_eq _).symm.trans c))
        replace H := H.2 c9
        refine zW_gh 38 [some (.int a0), some (.int a1), some (.int a2)] [.int (1 : Int32)] 2 (fun f => rfl) ?_
        exact zW_rh (some (.int (1 : Int32))) 1 (fun f => rfl) H
theorem s149 {K : zKt} {code rf rs pr pn : Int32} {bad : Bool} {J : zJt} {m pa pb pc vf vs : Nat → Int32} {B : zBt} {w : Nat → Int64} {p : Nat × Nat} {Q : zR → zH → Prop} {a b c : Int32} (H : Q (.inl (some (.int (zbi (zise a b c))))) (zh K (code, rf, rs, bad, pr, pn, J) (m, pa, pb, pc, vf, vs, B) w)) : zT zm_149 [.int a, .int b, .int c] p (zh K (code, rf, rs, bad, pr, pn, J) (m, pa, pb, pc, vf, vs, B) w) Q := by
  refine b149 ?_
  repeat' first | (refine ⟨?_, ?_⟩) | (intro _)
  all_goals first | omega | exact zQt (by simp_all [zise, zpw8]) H | exact zQf (by simp_all [zise, zpw8]) H
theorem b151 {K : zKt} {code rf rs pr pn : Int32} {bad : Bool} {J : zJt} {m pa pb pc vf vs : Nat → Int32} {B : zBt} {w : Nat → Int64} {p : Nat × Nat} {Q : zR → zH → Prop} {a0 a1 a2 : Int32} (H : Q (.inl (some (.int (((a0 + (4 : Int32)) + ((8 : Int32) * a1)) + ((2 : Int32) * a2))))) (zh K (code, rf, rs, bad, pr, pn, J) (m, pa, pb, pc, vf, vs, B) w)) : zT zm_151 [.int a0, .int a1, .int a2] p (zh K (code, rf, rs, bad, pr, pn, J) (m, pa, pb, pc, vf, vs, B) w) Q := by
  change zW zm_151 0 [some (.int a0), some (.int a1), some (.int a2)] [] p _ Q
  refine zW_gh 10 [some (.int a0), some (.int a1), some (.int a2)] [.int a2, .int (2 : Int32), .int ((a0 + (4 : Int32)) + ((8 : Int32) * a1))] 9 (fun f => rfl) ?_
  refine zW_gh 12 [some (.int a0), some (.int a1), some (.int a2)] [.int (((a0 + (4 : Int32)) + ((8 : Int32) * a1)) + ((2 : Int32) * a2))] 2 (fun f => rfl) ?_
  exact zW_rh (some (.int (((a0 + (4 : Int32)) + ((8 : Int32) * a1)) + ((2 : Int32) * a2)))) 1 (fun f => rfl) H
theorem s151 {K : zKt} {code rf rs pr pn : Int32} {bad : Bool} {J : zJt} {m pa pb pc vf vs : Nat → Int32} {B : zBt} {w : Nat → Int64} {p : Nat × Nat} {Q : zR → zH → Prop} {a b c : Int32} (H : Q (.inl (some (.int (a + 4 + 8 * b + 2 * c)))) (zh K (code, rf, rs, bad, pr, pn, J) (m, pa, pb, pc, vf, vs, B) w)) : zT zm_151 [.int a, .int b, .int c] p (zh K (code, rf, rs, bad, pr, pn, J) (m, pa, pb, pc, vf, vs, B) w) Q := b151 H
theorem b176 {K : zKt} {code rf rs pr pn : Int32} {bad : Bool} {J : zJt} {m pa pb pc vf vs : Nat → Int32} {B : zBt} {w : Nat → Int64} {p : Nat × Nat} {Q : zR → zH → Prop} {a0 a2 a3 : Nat} {a1 : Bool} (H : ((a1 = false → Q (.inl (some (.int ((((Int32.ofNat a0) + (4 : Int32)) + ((8 : Int32) * (Int32.ofNat a2))) + ((2 : Int32) * (Int32.ofNat a3)))))) (zh K (code, rf, rs, bad, pr, pn, J) (m, pa, pb, pc, vf, vs, B) w)) ∧ (a1 = true → Q (.inl (some (.int ((((Int32.ofNat a0) + (4 : Int32)) + ((8 : Int32) * (Int32.ofNat a3))) + ((2 : Int32) * (Int32.ofNat a2)))))) (zh K (code, rf, rs, bad, pr, pn, J) (m, pa, pb, pc, vf, vs, B) w)))) : zT zm_176 [.int (Int32.ofNat a0), .int (zbi a1), .int (Int32.ofNat a2), .int (Int32.ofNat a3)] p (zh K (code, rf, rs, bad, pr, pn, J) (m, pa, pb, pc, vf, vs, B) w) Q := by
  change zW zm_176 0 [some (.int (Int32.ofNat a0)), some (.int (zbi a1)), some (.int (Int32.ofNat a2)), some (.int (Int32.ofNat a3))] [] p _ Q
  refine zW_bh (zcmp .eq (zbi a1) (0 : Int32)) 13 4 [some (.int (Int32.ofNat a0)), some (.int (zbi a1)), some (.int (Int32.ofNat a2)), some (.int (Int32.ofNat a3))] [] 2 (fun f => rfl) (fun c => ?_) (fun c => ?_)
  · have c9 : a1 = false := ((Bool.not_eq_true' _).mp ((zcB_eq _).symm.trans c))
    replace H := H.1 c9
    refine zW_gh 16 [some (.int (Int32.ofNat a0)), some (.int (zbi a1)), some (.int (Int32.ofNat a2)), some (.int (Int32.ofNat a3))] [.int (Int32.ofNat a3), .int (Int32.ofNat a2), .int (Int32.ofNat a0)] 3 (fun f => rfl) ?_
    refine zW_cl rfl rfl rfl rfl rfl (s151 ?_)
    change zW zm_176 19 [some (.int (Int32.ofNat a0)), some (.int (zbi a1)), some (.int (Int32.ofNat a2)), some (.int (Int32.ofNat a3))] [.int ((((Int32.ofNat a0) + (4 : Int32)) + ((8 : Int32) * (Int32.ofNat a2))) + ((2 : Int32) * (Int32.ofNat a3)))] p _ Q
    exact zW_rh (some (.int ((((Int32.ofNat a0) + (4 : Int32)) + ((8 : Int32) * (Int32.ofNat a2))) + ((2 : Int32) * (Int32.ofNat a3))))) 1 (fun f => rfl) H
  · have c9 : a1 = true := ((Bool.not_eq_false' _).mp ((zcB_eq _).symm.trans c))
    replace H := H.2 c9
    refine zW_gh 7 [some (.int (Int32.ofNat a0)), some (.int (zbi a1)), some (.int (Int32.ofNat a2)), some (.int (Int32.ofNat a3))] [.int (Int32.ofNat a2), .int (Int32.ofNat a3), .int (Int32.ofNat a0)] 3 (fun f => rfl) ?_
    refine zW_cl rfl rfl rfl rfl rfl (s151 ?_)
    change zW zm_176 10 [some (.int (Int32.ofNat a0)), some (.int (zbi a1)), some (.int (Int32.ofNat a2)), some (.int (Int32.ofNat a3))] [.int ((((Int32.ofNat a0) + (4 : Int32)) + ((8 : Int32) * (Int32.ofNat a3))) + ((2 : Int32) * (Int32.ofNat a2)))] p _ Q
    refine zW_gh 19 [some (.int (Int32.ofNat a0)), some (.int (zbi a1)), some (.int (Int32.ofNat a2)), some (.int (Int32.ofNat a3))] [.int ((((Int32.ofNat a0) + (4 : Int32)) + ((8 : Int32) * (Int32.ofNat a3))) + ((2 : Int32) * (Int32.ofNat a2)))] 1 (fun f => rfl) ?_
    exact zW_rh (some (.int ((((Int32.ofNat a0) + (4 : Int32)) + ((8 : Int32) * (Int32.ofNat a3))) + ((2 : Int32) * (Int32.ofNat a2))))) 1 (fun f => rfl) H
theorem s176 {K : zKt} {code rf rs pr pn : Int32} {bad : Bool} {J : zJt} {m pa pb pc vf vs : Nat → Int32} {B : zBt} {w : Nat → Int64} {p : Nat × Nat} {Q : zR → zH → Prop} {x y z : Int32} {a b c : Nat} {d : Bool} (hx : x = Int32.ofNat a) (hy : y = Int32.ofNat b) (hz : z = Int32.ofNat c) (H : Q (.inl (some (.int (Int32.ofNat (zln a d b c))))) (zh K (code, rf, rs, bad, pr, pn, J) (m, pa, pb, pc, vf, vs, B) w)) : zT zm_176 [.int x, .int (zbi d), .int y, .int z] p (zh K (code, rf, rs, bad, pr, pn, J) (m, pa, pb, pc, vf, vs, B) w) Q := by
  subst hx hy hz
  refine b176 ⟨fun h => ?_, fun h => ?_⟩
  · subst h
    rw [show Int32.ofNat a + 4 + 8 * Int32.ofNat b + 2 * Int32.ofNat c = Int32.ofNat (a + 4 + 8 * b + 2 * c) from zN_a (zN_a (zN_a rfl rfl) (zN_m rfl rfl)) (zN_m rfl rfl)]
    exact H
  · subst h
    rw [show Int32.ofNat a + 4 + 8 * Int32.ofNat c + 2 * Int32.ofNat b = Int32.ofNat (a + 4 + 8 * c + 2 * b) from zN_a (zN_a (zN_a rfl rfl) (zN_m rfl rfl)) (zN_m rfl rfl)]
    exact H
theorem b186 {K : zKt} {code rf rs pr pn : Int32} {bad : Bool} {J : zJt} {m pa pb pc vf vs : Nat → Int32} {B : zBt} {w : Nat → Int64} {p : Nat × Nat} {Q : zR → zH → Prop} {a0 a1 : Int32} (H : ((¬ a0 = (0 : Int32) → Q (.inl (some (.int (0 : Int32)))) (zh K (code, rf, rs, bad, pr, pn, J) (m, pa, pb, pc, vf, vs, B) w)) ∧ (a0 = (0 : Int32) → ((¬ a1 = (0 : Int32) → Q (.inl (some (.int (0 : Int32)))) (zh K (code, rf, rs, bad, pr, pn, J) (m, pa, pb, pc, vf, vs, B) w)) ∧ (a1 = (0 : Int32) → Q (.inl (some (.int (1 : Int32)))) (zh K (code, rf, rs, bad, pr, pn, J) (m, pa, pb, pc, vf, vs, B) w)))))) : zT zm_186 [.int a0, .int a1] p (zh K (code, rf, rs, bad, pr, pn, J) (m, pa, pb, pc, vf, vs, B) w) Q := by
  change zW zm_186 0 [some (.int a0), some (.int a1)] [] p _ Q
  refine zW_bh (zcmp .ne a0 (0 : Int32)) 12 4 [some (.int a0), some (.int a1)] [] 2 (fun f => rfl) (fun c => ?_) (fun c => ?_)
  · have c9 : ¬ a0 = (0 : Int32) := (by simpa [zcmp] using c)
    replace H := H.1 c9
    refine zW_gh 13 [some (.int a0), some (.int a1)] [.int (0 : Int32)] 1 (fun f => rfl) ?_
    exact zW_rh (some (.int (0 : Int32))) 1 (fun f => rfl) H
  · have c9 : a0 = (0 : Int32) := (by simpa [zcmp] using c)
    replace H := H.2 c9
    refine zW_bh (zcmp .ne a1 (0 : Int32)) 12 8 [some (.int a0), some (.int a1)] [] 2 (fun f => rfl) (fun c => ?_) (fun c => ?_)
    · have c9 : ¬ a1 = (0 : Int32) := (by simpa [zcmp] using c)
      replace H := H.1 c9
      refine zW_gh 13 [some (.int a0), some (.int a1)] [.int (0 : Int32)] 1 (fun f => rfl) ?_
      exact zW_rh (some (.int (0 : Int32))) 1 (fun f => rfl) H
    · have c9 : a1 = (0 : Int32) := (by simpa [zcmp] using c)
      replace H := H.2 c9
      refine zW_gh 13 [some (.int a0), some (.int a1)] [.int (1 : Int32)] 2 (fun f => rfl) ?_
      exact zW_rh (some (.int (1 : Int32))) 1 (fun f => rfl) H
theorem s186 {K : zKt} {code rf rs pr pn : Int32} {bad : Bool} {J : zJt} {m pa pb pc vf vs : Nat → Int32} {B : zBt} {w : Nat → Int64} {p : Nat × Nat} {Q : zR → zH → Prop} {a b : Int32} (H : Q (.inl (some (.int (zbi (zzr a b))))) (zh K (code, rf, rs, bad, pr, pn, J) (m, pa, pb, pc, vf, vs, B) w)) : zT zm_186 [.int a, .int b] p (zh K (code, rf, rs, bad, pr, pn, J) (m, pa, pb, pc, vf, vs, B) w) Q := by
  refine b186 ?_
  repeat' first | (refine ⟨?_, ?_⟩) | (intro _)
  all_goals first | omega | exact zQt (by simp_all [zzr]) H | exact zQf (by simp_all [zzr]) H
theorem b196 {K : zKt} {code rf rs pr pn : Int32} {bad : Bool} {J : zJt} {m pa pb pc vf vs : Nat → Int32} {B : zBt} {w : Nat → Int64} {p : Nat × Nat} {Q : zR → zH → Prop} {a0 : Int32} (H : (((2 : Int32) ≤ a0 → Q (.inl (some (.int (a0 - (1 : Int32))))) (zh K (code, rf, rs, bad, pr, pn, J) (m, pa, pb, pc, vf, vs, B) w)) ∧ (¬ (2 : Int32) ≤ a0 → Q (.inl (some (.int (-1 : Int32)))) (zh K (code, rf, rs, bad, pr, pn, J) (m, pa, pb, pc, vf, vs, B) w)))) : zT zm_196 [.int a0] p (zh K (code, rf, rs, bad, pr, pn, J) (m, pa, pb, pc, vf, vs, B) w) Q := by
  change zW zm_196 0 [some (.int a0)] [] p _ Q
  refine zW_bh (zcmp .ge a0 (2 : Int32)) 9 5 [some (.int a0)] [] 3 (fun f => rfl) (fun c => ?_) (fun c => ?_)
  · have c9 : (2 : Int32) ≤ a0 := (of_decide_eq_true c)
    replace H := H.1 c9
    refine zW_gh 12 [some (.int a0)] [.int (a0 - (1 : Int32))] 3 (fun f => rfl) ?_
    exact zW_rh (some (.int (a0 - (1 : Int32)))) 1 (fun f => rfl) H
  · have c9 : ¬ (2 : Int32) ≤ a0 := (of_decide_eq_false c)
    replace H := H.2 c9
    refine zW_gh 12 [some (.int a0)] [.int (-1 : Int32)] 2 (fun f => rfl) ?_
    exact zW_rh (some (.int (-1 : Int32))) 1 (fun f => rfl) H
theorem s196 {K : zKt} {code rf rs pr pn : Int32} {bad : Bool} {J : zJt} {m pa pb pc vf vs : Nat → Int32} {B : zBt} {w : Nat → Int64} {p : Nat × Nat} {Q : zR → zH → Prop} {a : Int32} (H : Q (.inl (some (.int (zm1 a)))) (zh K (code, rf, rs, bad, pr, pn, J) (m, pa, pb, pc, vf, vs, B) w)) : zT zm_196 [.int a] p (zh K (code, rf, rs, bad, pr, pn, J) (m, pa, pb, pc, vf, vs, B) w) Q := by
  refine b196 ⟨fun h => ?_, fun h => ?_⟩
  · have e : ¬ a < 2 := by rw [Int32.lt_iff_toInt_lt]; rw [Int32.le_iff_toInt_le] at h; omega
    simpa only [zm1, decide_eq_false e, cond_false] using H
  · have e : a < 2 := by rw [Int32.lt_iff_toInt_lt]; rw [Int32.le_iff_toInt_le] at h; omega
    simpa only [zm1, decide_eq_true e, cond_true] using H
theorem b144 {K : zKt} {code rf rs pr pn : Int32} {bad : Bool} {J : zJt} {m pa pb pc vf vs : Nat → Int32} {B : zBt} {w : Nat → Int64} {p : Nat × Nat} {Q : zR → zH → Prop} {a0 : Nat} (H : (((1068 * a0) + 0) < 5340 ∧ ((¬ (m ((1068 * a0) + 0)) = (-1 : Int32) → Q (.inl (some (.int (0 : Int32)))) (zh K (code, rf, rs, bad, pr, pn, J) (m, pa, pb, pc, vf, vs, B) w)) ∧ ((m ((1068 * a0) + 0)) = (-1 : Int32) → Q (.inl (some (.int (1 : Int32)))) (zh K (code, rf, rs, bad, pr, pn, J) (m, pa, pb, pc, vf, vs, B) w))))) : zT zm_144 [.ref 75, .int (Int32.ofNat a0)] p (zh K (code, rf, rs, bad, pr, pn, J) (m, pa, pb, pc, vf, vs, B) w) Q := by
  change zW zm_144 0 [some (.ref 75), some (.int (Int32.ofNat a0))] [] p _ Q
  refine zW_gh 11 [some (.ref 75), some (.int (Int32.ofNat a0))] [.int (((1068 : Int32) * (Int32.ofNat a0)) + (0 : Int32)), .ref 76] 7 (fun f => rfl) ?_
  obtain ⟨h1, H⟩ := H
  refine zW_iald rfl (by decide) rfl (by decide) (zN_a (zN_m rfl rfl) rfl) h1 ?_
  refine zW_bh (zcmp .ne (m ((1068 * a0) + 0)) (-1 : Int32)) 20 16 [some (.ref 75), some (.int (Int32.ofNat a0))] [] 2 (fun f => rfl) (fun c => ?_) (fun c => ?_)
  · have c9 : ¬ (m ((1068 * a0) + 0)) = (-1 : Int32) := (by simpa [zcmp] using c)
    replace H := H.1 c9
    refine zW_gh 21 [some (.ref 75), some (.int (Int32.ofNat a0))] [.int (0 : Int32)] 1 (fun f => rfl) ?_
    exact zW_rh (some (.int (0 : Int32))) 1 (fun f => rfl) H
  · have c9 : (m ((1068 * a0) + 0)) = (-1 : Int32) := (by simpa [zcmp] using c)
    replace H := H.2 c9
    refine zW_gh 21 [some (.ref 75), some (.int (Int32.ofNat a0))] [.int (1 : Int32)] 2 (fun f => rfl) ?_
    exact zW_rh (some (.int (1 : Int32))) 1 (fun f => rfl) H
theorem s144 {K : zKt} {code rf rs pr pn : Int32} {bad : Bool} {J : zJt} {m pa pb pc vf vs : Nat → Int32} {B : zBt} {w : Nat → Int64} {p : Nat × Nat} {Q : zR → zH → Prop} {x : Int32} {n : Nat} (hx : x = Int32.ofNat n) (hn : 1068 * n < 5340) (H : Q (.inl (some (.int (zbi (decide (m (1068 * n) = -1)))))) (zh K (code, rf, rs, bad, pr, pn, J) (m, pa, pb, pc, vf, vs, B) w)) : zT zm_144 [.ref 75, .int x] p (zh K (code, rf, rs, bad, pr, pn, J) (m, pa, pb, pc, vf, vs, B) w) Q := by
  subst hx
  refine b144 ?_
  repeat' first | (refine ⟨?_, ?_⟩) | (intro _)
  all_goals first | omega | exact zQt (by simp_all []) H | exact zQf (by simp_all []) H
theorem b179 {K : zKt} {code rf rs pr pn : Int32} {bad : Bool} {J : zJt} {m pa pb pc vf vs : Nat → Int32} {B : zBt} {w : Nat → Int64} {p : Nat × Nat} {Q : zR → zH → Prop} {a0 a1 a2 : Int32} (H : ((¬ a0 = (0 : Int32) → ((¬ a0 = (1 : Int32) → ((¬ a2 = (0 : Int32) → Q (.inl (some (.int (0 : Int32)))) (zh K (code, rf, rs, bad, pr, pn, J) (m, pa, pb, pc, vf, vs, B) w)) ∧ (a2 = (0 : Int32) → (((zin ((a1).toInt64) (1 : Int64) (((a0 - (1 : Int32))).toInt64)) = false → Q (.inl (some (.int (0 : Int32)))) (zh K (code, rf, rs, bad, pr, pn, J) (m, pa, pb, pc, vf, vs, B) w)) ∧ ((zin ((a1).toInt64) (1 : Int64) (((a0 - (1 : Int32))).toInt64)) = true → ∀ k_a1, k_a1 < 2147483648 → a1 = Int32.ofNat k_a1 → Q (.inl (some (.int (1 : Int32)))) (zh K (code, rf, rs, bad, pr, pn, J) (m, pa, pb, pc, vf, vs, B) w)))))) ∧ (a0 = (1 : Int32) → ((¬ a1 = (0 : Int32) → ((¬ a2 = (0 : Int32) → Q (.inl (some (.int (0 : Int32)))) (zh K (code, rf, rs, bad, pr, pn, J) (m, pa, pb, pc, vf, vs, B) w)) ∧ (a2 = (0 : Int32) → ((a1 = (1 : Int32) → Q (.inl (some (.int (1 : Int32)))) (zh K (code, rf, rs, bad, pr, pn, J) (m, pa, pb, pc, vf, vs, B) w)) ∧ (¬ a1 = (1 : Int32) → ((¬ a1 = (-1 : Int32) → Q (.inl (some (.int (0 : Int32)))) (zh K (code, rf, rs, bad, pr, pn, J) (m, pa, pb, pc, vf, vs, B) w)) ∧ (a1 = (-1 : Int32) → Q (.inl (some (.int (1 : Int32)))) (zh K (code, rf, rs, bad, pr, pn, J) (m, pa, pb, pc, vf, vs, B) w)))))))) ∧ (a1 = (0 : Int32) → ((a2 = (1 : Int32) → Q (.inl (some (.int (1 : Int32)))) (zh K (code, rf, rs, bad, pr, pn, J) (m, pa, pb, pc, vf, vs, B) w)) ∧ (¬ a2 = (1 : Int32) → ((a2 = (-1 : Int32) → Q (.inl (some (.int (1 : Int32)))) (zh K (code, rf, rs, bad, pr, pn, J) (m, pa, pb, pc, vf, vs, B) w)) ∧ (¬ a2 = (-1 : Int32) → ((¬ a2 = (0 : Int32) → Q (.inl (some (.int (0 : Int32)))) (zh K (code, rf, rs, bad, pr, pn, J) (m, pa, pb, pc, vf, vs, B) w)) ∧ (a2 = (0 : Int32) → ((a1 = (1 : Int32) → Q (.inl (some (.int (1 : Int32)))) (zh K (code, rf, rs, bad, pr, pn, J) (m, pa, pb, pc, vf, vs, B) w)) ∧ (¬ a1 = (1 : Int32) → ((¬ a1 = (-1 : Int32) → Q (.inl (some (.int (0 : Int32)))) (zh K (code, rf, rs, bad, pr, pn, J) (m, pa, pb, pc, vf, vs, B) w)) ∧ (a1 = (-1 : Int32) → Q (.inl (some (.int (1 : Int32)))) (zh K (code, rf, rs, bad, pr, pn, J) (m, pa, pb, pc, vf, vs, B) w)))))))))))))))) ∧ (a0 = (0 : Int32) → ((¬ a2 = (0 : Int32) → Q (.inl (some (.int (0 : Int32)))) (zh K (code, rf, rs, bad, pr, pn, J) (m, pa, pb, pc, vf, vs, B) w)) ∧ (a2 = (0 : Int32) → ((a1 = (1 : Int32) → Q (.inl (some (.int (1 : Int32)))) (zh K (code, rf, rs, bad, pr, pn, J) (m, pa, pb, pc, vf, vs, B) w)) ∧ (¬ a1 = (1 : Int32) → ((¬ a1 = (-1 : Int32) → Q (.inl (some (.int (0 : Int32)))) (zh K (code, rf, rs, bad, pr, pn, J) (m, pa, pb, pc, vf, vs, B) w)) ∧ (a1 = (-1 : Int32) → Q (.inl (some (.int (1 : Int32)))) (zh K (code, rf, rs, bad, pr, pn, J) (m, pa, pb, pc, vf, vs, B) w)))))))))) : zT zm_179 [.int a0, .int a1, .int a2] p (zh K (code, rf, rs, bad, pr, pn, J) (m, pa, pb, pc, vf, vs, B) w) Q := by
  change zW zm_179 0 [some (.int a0), some (.int a1), some (.int a2)] [] p _ Q
  refine zW_bh (zcmp .ne a0 (0 : Int32)) 24 4 [some (.int a0), some (.int a1), some (.int a2)] [] 2 (fun f => rfl) (fun c => ?_) (fun c => ?_)
  · have c9 : ¬ a0 = (0 : Int32) := (by simpa [zcmp] using c)
    replace H := H.1 c9
    refine zW_bh (zcmp .ne a0 (1 : Int32)) 63 29 [some (.int a0), some (.int a1), some (.int a2)] [] 3 (fun f => rfl) (fun c => ?_) (fun c => ?_)
    · have c9 : ¬ a0 = (1 : Int32) := (by simpa [zcmp] using c)
      replace H := H.1 c9
      refine zW_bh (zcmp .ne a2 (0 : Int32)) 84 67 [some (.int a0), some (.int a1), some (.int a2)] [] 2 (fun f => rfl) (fun c => ?_) (fun c => ?_)
      · have c9 : ¬ a2 = (0 : Int32) := (by simpa [zcmp] using c)
        replace H := H.1 c9
        refine zW_gh 85 [some (.int a0), some (.int a1), some (.int a2)] [.int (0 : Int32)] 1 (fun f => rfl) ?_
        exact zW_rh (some (.int (0 : Int32))) 1 (fun f => rfl) H
      · have c9 : a2 = (0 : Int32) := (by simpa [zcmp] using c)
        replace H := H.2 c9
        refine zW_gh 74 [some (.int a0), some (.int a1), some (.int a2)] [.long (((a0 - (1 : Int32))).toInt64), .long (1 : Int64), .long ((a1).toInt64)] 7 (fun f => rfl) ?_
        refine zW_cl rfl rfl rfl rfl rfl (s141 ?_)
        change zW zm_179 77 [some (.int a0), some (.int a1), some (.int a2)] [.int (zbi (zin ((a1).toInt64) (1 : Int64) (((a0 - (1 : Int32))).toInt64)))] p _ Q
        refine zW_bh (zcmp .eq (zbi (zin ((a1).toInt64) (1 : Int64) (((a0 - (1 : Int32))).toInt64))) (0 : Int32)) 84 80 [some (.int a0), some (.int a1), some (.int a2)] [] 1 (fun f => rfl) (fun c => ?_) (fun c => ?_)
        · have c9 : (zin ((a1).toInt64) (1 : Int64) (((a0 - (1 : Int32))).toInt64)) = false := ((Bool.not_eq_true' _).mp ((zcB_eq _).symm.trans c))
          replace H := H.1 c9
          refine zW_gh 85 [some (.int a0), some (.int a1), some (.int a2)] [.int (0 : Int32)] 1 (fun f => rfl) ?_
          exact zW_rh (some (.int (0 : Int32))) 1 (fun f => rfl) H
        · have c9 : (zin ((a1).toInt64) (1 : Int64) (((a0 - (1 : Int32))).toInt64)) = true := ((Bool.not_eq_false' _).mp ((zcB_eq _).symm.trans c))
          replace H := H.2 c9
          obtain ⟨k_a1, h_k_a1, e_k_a1⟩ := zin_b (by decide) c9
          replace H := H k_a1 h_k_a1 e_k_a1
          subst e_k_a1
          refine zW_gh 85 [some (.int a0), some (.int (Int32.ofNat k_a1)), some (.int a2)] [.int (1 : Int32)] 2 (fun f => rfl) ?_
          exact zW_rh (some (.int (1 : Int32))) 1 (fun f => rfl) H
    · have c9 : a0 = (1 : Int32) := (by simpa [zcmp] using c)
      replace H := H.2 c9
      refine zW_bh (zcmp .ne a1 (0 : Int32)) 43 33 [some (.int a0), some (.int a1), some (.int a2)] [] 2 (fun f => rfl) (fun c => ?_) (fun c => ?_)
      · have c9 : ¬ a1 = (0 : Int32) := (by simpa [zcmp] using c)
        replace H := H.1 c9
        refine zW_bh (zcmp .ne a2 (0 : Int32)) 61 47 [some (.int a0), some (.int a1), some (.int a2)] [] 2 (fun f => rfl) (fun c => ?_) (fun c => ?_)
        · have c9 : ¬ a2 = (0 : Int32) := (by simpa [zcmp] using c)
          replace H := H.1 c9
          refine zW_gh 62 [some (.int a0), some (.int a1), some (.int a2)] [.int (0 : Int32)] 1 (fun f => rfl) ?_
          exact zW_rh (some (.int (0 : Int32))) 1 (fun f => rfl) H
        · have c9 : a2 = (0 : Int32) := (by simpa [zcmp] using c)
          replace H := H.2 c9
          refine zW_bh (zcmp .eq a1 (1 : Int32)) 57 52 [some (.int a0), some (.int a1), some (.int a2)] [] 3 (fun f => rfl) (fun c => ?_) (fun c => ?_)
          · have c9 : a1 = (1 : Int32) := (of_decide_eq_true c)
            replace H := H.1 c9
            refine zW_gh 62 [some (.int a0), some (.int a1), some (.int a2)] [.int (1 : Int32)] 2 (fun f => rfl) ?_
            exact zW_rh (some (.int (1 : Int32))) 1 (fun f => rfl) H
          · have c9 : ¬ a1 = (1 : Int32) := (of_decide_eq_false c)
            replace H := H.2 c9
            refine zW_bh (zcmp .ne a1 (-1 : Int32)) 61 57 [some (.int a0), some (.int a1), some (.int a2)] [] 3 (fun f => rfl) (fun c => ?_) (fun c => ?_)
            · have c9 : ¬ a1 = (-1 : Int32) := (by simpa [zcmp] using c)
              replace H := H.1 c9
              refine zW_gh 62 [some (.int a0), some (.int a1), some (.int a2)] [.int (0 : Int32)] 1 (fun f => rfl) ?_
              exact zW_rh (some (.int (0 : Int32))) 1 (fun f => rfl) H
            · have c9 : a1 = (-1 : Int32) := (by simpa [zcmp] using c)
              replace H := H.2 c9
              refine zW_gh 62 [some (.int a0), some (.int a1), some (.int a2)] [.int (1 : Int32)] 2 (fun f => rfl) ?_
              exact zW_rh (some (.int (1 : Int32))) 1 (fun f => rfl) H
      · have c9 : a1 = (0 : Int32) := (by simpa [zcmp] using c)
        replace H := H.2 c9
        refine zW_bh (zcmp .eq a2 (1 : Int32)) 57 38 [some (.int a0), some (.int a1), some (.int a2)] [] 3 (fun f => rfl) (fun c => ?_) (fun c => ?_)
        · have c9 : a2 = (1 : Int32) := (of_decide_eq_true c)
          replace H := H.1 c9
          refine zW_gh 62 [some (.int a0), some (.int a1), some (.int a2)] [.int (1 : Int32)] 2 (fun f => rfl) ?_
          exact zW_rh (some (.int (1 : Int32))) 1 (fun f => rfl) H
        · have c9 : ¬ a2 = (1 : Int32) := (of_decide_eq_false c)
          replace H := H.2 c9
          refine zW_bh (zcmp .eq a2 (-1 : Int32)) 57 43 [some (.int a0), some (.int a1), some (.int a2)] [] 3 (fun f => rfl) (fun c => ?_) (fun c => ?_)
          · have c9 : a2 = (-1 : Int32) := (of_decide_eq_true c)
            replace H := H.1 c9
            refine zW_gh 62 [some (.int a0), some (.int a1), some (.int a2)] [.int (1 : Int32)] 2 (fun f => rfl) ?_
            exact zW_rh (some (.int (1 : Int32))) 1 (fun f => rfl) H
          · have c9 : ¬ a2 = (-1 : Int32) := (of_decide_eq_false c)
            replace H := H.2 c9
            refine zW_bh (zcmp .ne a2 (0 : Int32)) 61 47 [some (.int a0), some (.int a1), some (.int a2)] [] 2 (fun f => rfl) (fun c => ?_) (fun c => ?_)
            · have c9 : ¬ a2 = (0 : Int32) := (by simpa [zcmp] using c)
              replace H := H.1 c9
              refine zW_gh 62 [some (.int a0), some (.int a1), some (.int a2)] [.int (0 : Int32)] 1 (fun f => rfl) ?_
              exact zW_rh (some (.int (0 : Int32))) 1 (fun f => rfl) H
            · have c9 : a2 = (0 : Int32) := (by simpa [zcmp] using c)
              replace H := H.2 c9
              refine zW_bh (zcmp .eq a1 (1 : Int32)) 57 52 [some (.int a0), some (.int a1), some (.int a2)] [] 3 (fun f => rfl) (fun c => ?_) (fun c => ?_)
              · have c9 : a1 = (1 : Int32) := (of_decide_eq_true c)
                replace H := H.1 c9
                refine zW_gh 62 [some (.int a0), some (.int a1), some (.int a2)] [.int (1 : Int32)] 2 (fun f => rfl) ?_
                exact zW_rh (some (.int (1 : Int32))) 1 (fun f => rfl) H
              · have c9 : ¬ a1 = (1 : Int32) := (of_decide_eq_false c)
                replace H := H.2 c9
                refine zW_bh (zcmp .ne a1 (-1 : Int32)) 61 57 [some (.int a0), some (.int a1), some (.int a2)] [] 3 (fun f => rfl) (fun c => ?_) (fun c => ?_)
                · have c9 : ¬ a1 = (-1 : Int32) := (by simpa [zcmp] using c)
                  replace H := H.1 c9
                  refine zW_gh 62 [some (.int a0), some (.int a1), some (.int a2)] [.int (0 : Int32)] 1 (fun f => rfl) ?_
                  exact zW_rh (some (.int (0 : Int32))) 1 (fun f => rfl) H
                · have c9 : a1 = (-1 : Int32) := (by simpa [zcmp] using c)
                  replace H := H.2 c9
                  refine zW_gh 62 [some (.int a0), some (.int a1), some (.int a2)] [.int (1 : Int32)] 2 (fun f => rfl) ?_
                  exact zW_rh (some (.int (1 : Int32))) 1 (fun f => rfl) H
  · have c9 : a0 = (0 : Int32) := (by simpa [zcmp] using c)
    replace H := H.2 c9
    refine zW_bh (zcmp .ne a2 (0 : Int32)) 22 8 [some (.int a0), some (.int a1), some (.int a2)] [] 2 (fun f => rfl) (fun c => ?_) (fun c => ?_)
    · have c9 : ¬ a2 = (0 : Int32) := (by simpa [zcmp] using c)
      replace H := H.1 c9
      refine zW_gh 23 [some (.int a0), some (.int a1), some (.int a2)] [.int (0 : Int32)] 1 (fun f => rfl) ?_
      exact zW_rh (some (.int (0 : Int32))) 1 (fun f => rfl) H
    · have c9 : a2 = (0 : Int32) := (by simpa [zcmp] using c)
      replace H := H.2 c9
      refine zW_bh (zcmp .eq a1 (1 : Int32)) 18 13 [some (.int a0), some (.int a1), some (.int a2)] [] 3 (fun f => rfl) (fun c => ?_) (fun c => ?_)
      · have c9 : a1 = (1 : Int32) := (of_decide_eq_true c)
        replace H := H.1 c9
        refine zW_gh 23 [some (.int a0), some (.int a1), some (.int a2)] [.int (1 : Int32)] 2 (fun f => rfl) ?_
        exact zW_rh (some (.int (1 : Int32))) 1 (fun f => rfl) H
      · have c9 : ¬ a1 = (1 : Int32) := (of_decide_eq_false c)
        replace H := H.2 c9
        refine zW_bh (zcmp .ne a1 (-1 : Int32)) 22 18 [some (.int a0), some (.int a1), some (.int a2)] [] 3 (fun f => rfl) (fun c => ?_) (fun c => ?_)
        · have c9 : ¬ a1 = (-1 : Int32) := (by simpa [zcmp] using c)
          replace H := H.1 c9
          refine zW_gh 23 [some (.int a0), some (.int a1), some (.int a2)] [.int (0 : Int32)] 1 (fun f => rfl) ?_
          exact zW_rh (some (.int (0 : Int32))) 1 (fun f => rfl) H
        · have c9 : a1 = (-1 : Int32) := (by simpa [zcmp] using c)
          replace H := H.2 c9
          refine zW_gh 23 [some (.int a0), some (.int a1), some (.int a2)] [.int (1 : Int32)] 2 (fun f => rfl) ?_
          exact zW_rh (some (.int (1 : Int32))) 1 (fun f => rfl) H
theorem s179 {K : zKt} {code rf rs pr pn : Int32} {bad : Bool} {J : zJt} {m pa pb pc vf vs : Nat → Int32} {B : zBt} {w : Nat → Int64} {p : Nat × Nat} {Q : zR → zH → Prop} {a b c : Int32} (H : Q (.inl (some (.int (zbi (zisu a b c))))) (zh K (code, rf, rs, bad, pr, pn, J) (m, pa, pb, pc, vf, vs, B) w)) : zT zm_179 [.int a, .int b, .int c] p (zh K (code, rf, rs, bad, pr, pn, J) (m, pa, pb, pc, vf, vs, B) w) Q := by
  refine b179 ?_
  repeat' first | (refine ⟨?_, ?_⟩) | (intro _)
  all_goals first | omega | exact zQt (by simp_all [zisu]) H | exact zQf (by simp_all [zisu]) H
theorem b192 {K : zKt} {code rf rs pr pn : Int32} {bad : Bool} {J : zJt} {m pa pb pc vf vs : Nat → Int32} {B : zBt} {w : Nat → Int64} {p : Nat × Nat} {Q : zR → zH → Prop} {a0 a1 : Int64} (H : (a1 ≠ 0 ∧ (((a0 - a0 / a1 * a1) = (0 : Int64) → Q (.inl (some (.long (a0 / a1)))) (zh K (code, rf, rs, bad, pr, pn, J) (m, pa, pb, pc, vf, vs, B) w)) ∧ (¬ (a0 - a0 / a1 * a1) = (0 : Int64) → (((0 : Int64) ≤ a0 → (((0 : Int64) ≤ a1 → Q (.inl (some (.long (a0 / a1)))) (zh K (code, rf, rs, bad, pr, pn, J) (m, pa, pb, pc, vf, vs, B) w)) ∧ (¬ (0 : Int64) ≤ a1 → Q (.inl (some (.long ((a0 / a1) - (1 : Int64))))) (zh K (code, rf, rs, bad, pr, pn, J) (m, pa, pb, pc, vf, vs, B) w)))) ∧ (¬ (0 : Int64) ≤ a0 → (((0 : Int64) ≤ a1 → Q (.inl (some (.long ((a0 / a1) - (1 : Int64))))) (zh K (code, rf, rs, bad, pr, pn, J) (m, pa, pb, pc, vf, vs, B) w)) ∧ (¬ (0 : Int64) ≤ a1 → Q (.inl (some (.long (a0 / a1)))) (zh K (code, rf, rs, bad, pr, pn, J) (m, pa, pb, pc, vf, vs, B) w))))))))) : zT zm_192 [.long a0, .long a1] p (zh K (code, rf, rs, bad, pr, pn, J) (m, pa, pb, pc, vf, vs, B) w) Q := by
  change zW zm_192 0 [some (.long a0), none, some (.long a1), none, none, none] [] p _ Q
  refine zW_gh 2 [some (.long a0), none, some (.long a1), none, none, none] [.long a1, .long a0] 2 (fun f => rfl) ?_
  obtain ⟨h1, H⟩ := H
  refine zW_ldiv rfl h1 ?_
  refine zW_gh 7 [some (.long a0), none, some (.long a1), none, some (.long (a0 / a1)), none] [.long a1, .long a0] 3 (fun f => rfl) ?_
  refine zW_lrem rfl h1 ?_
  refine zW_bh (zcmp .eq (lg_cmp (a0 - a0 / a1 * a1) (0 : Int64)) (0 : Int32)) 45 13 [some (.long a0), none, some (.long a1), none, some (.long (a0 / a1)), none] [] 3 (fun f => rfl) (fun c => ?_) (fun c => ?_)
  · have c9 : (a0 - a0 / a1 * a1) = (0 : Int64) := (of_decide_eq_true ((zcL_eq _ _).symm.trans c))
    replace H := H.1 c9
    refine zW_gh 47 [some (.long a0), none, some (.long a1), none, some (.long (a0 / a1)), none] [.long (a0 / a1)] 1 (fun f => rfl) ?_
    exact zW_rh (some (.long (a0 / a1))) 1 (fun f => rfl) H
  · have c9 : ¬ (a0 - a0 / a1 * a1) = (0 : Int64) := (of_decide_eq_false ((zcL_eq _ _).symm.trans c))
    replace H := H.2 c9
    refine zW_bh (zcmp .ge (lg_cmp a0 (0 : Int64)) (0 : Int32)) 23 19 [some (.long a0), none, some (.long a1), none, some (.long (a0 / a1)), none] [] 4 (fun f => rfl) (fun c => ?_) (fun c => ?_)
    · have c9 : (0 : Int64) ≤ a0 := (of_decide_eq_true ((zcL_ge _ _).symm.trans c))
      replace H := H.1 c9
      refine zW_bh (zcmp .ge (lg_cmp a1 (0 : Int64)) (0 : Int32)) 34 30 [some (.long a0), none, some (.long a1), none, some (.long (a0 / a1)), none] [.int (0 : Int32)] 5 (fun f => rfl) (fun c => ?_) (fun c => ?_)
      · have c9 : (0 : Int64) ≤ a1 := (of_decide_eq_true ((zcL_ge _ _).symm.trans c))
        replace H := H.1 c9
        refine zW_gh 47 [some (.long a0), none, some (.long a1), none, some (.long (a0 / a1)), none] [.long (a0 / a1)] 3 (fun f => rfl) ?_
        exact zW_rh (some (.long (a0 / a1))) 1 (fun f => rfl) H
      · have c9 : ¬ (0 : Int64) ≤ a1 := (of_decide_eq_false ((zcL_ge _ _).symm.trans c))
        replace H := H.2 c9
        refine zW_gh 47 [some (.long a0), none, some (.long a1), none, some (.long (a0 / a1)), none] [.long ((a0 / a1) - (1 : Int64))] 7 (fun f => rfl) ?_
        exact zW_rh (some (.long ((a0 / a1) - (1 : Int64)))) 1 (fun f => rfl) H
    · have c9 : ¬ (0 : Int64) ≤ a0 := (of_decide_eq_false ((zcL_ge _ _).symm.trans c))
      replace H := H.2 c9
      refine zW_bh (zcmp .ge (lg_cmp a1 (0 : Int64)) (0 : Int32)) 34 30 [some (.long a0), none, some (.long a1), none, some (.long (a0 / a1)), none] [.int (1 : Int32)] 6 (fun f => rfl) (fun c => ?_) (fun c => ?_)
      · have c9 : (0 : Int64) ≤ a1 := (of_decide_eq_true ((zcL_ge _ _).symm.trans c))
        replace H := H.1 c9
        refine zW_gh 47 [some (.long a0), none, some (.long a1), none, some (.long (a0 / a1)), none] [.long ((a0 / a1) - (1 : Int64))] 6 (fun f => rfl) ?_
        exact zW_rh (some (.long ((a0 / a1) - (1 : Int64)))) 1 (fun f => rfl) H
      · have c9 : ¬ (0 : Int64) ≤ a1 := (of_decide_eq_false ((zcL_ge _ _).symm.trans c))
        replace H := H.2 c9
        refine zW_gh 47 [some (.long a0), none, some (.long a1), none, some (.long (a0 / a1)), none] [.long (a0 / a1)] 4 (fun f => rfl) ?_
        exact zW_rh (some (.long (a0 / a1))) 1 (fun f => rfl) H
theorem s192 {K : zKt} {code rf rs pr pn : Int32} {bad : Bool} {J : zJt} {m pa pb pc vf vs : Nat → Int32} {B : zBt} {w : Nat → Int64} {p : Nat × Nat} {Q : zR → zH → Prop} {a b : Int64} (hb : b ≠ 0) (H : Q (.inl (some (.long (zflr a b)))) (zh K (code, rf, rs, bad, pr, pn, J) (m, pa, pb, pc, vf, vs, B) w)) : zT zm_192 [.long a, .long b] p (zh K (code, rf, rs, bad, pr, pn, J) (m, pa, pb, pc, vf, vs, B) w) Q := by
  have n0 : ∀ x : Int64, (¬ 0 ≤ x) → decide (x < 0) = true := fun x h => decide_eq_true (by rw [Int64.le_iff_toInt_le] at h; rw [Int64.lt_iff_toInt_lt]; omega)
  have n1 : ∀ x : Int64, (0 ≤ x) → decide (x < 0) = false := fun x h => decide_eq_false (by rw [Int64.le_iff_toInt_le] at h; rw [Int64.lt_iff_toInt_lt]; omega)
  have go : ∀ {v : Int64}, zflr a b = v → Q (.inl (some (.long v))) (zh K (code, rf, rs, bad, pr, pn, J) (m, pa, pb, pc, vf, vs, B) w) := fun e => e ▸ H
  refine b192 ⟨hb, fun h => go ?_, fun h => ⟨fun h1 => ⟨fun h2 => go ?_, fun h2 => go ?_⟩, fun h1 => ⟨fun h2 => go ?_, fun h2 => go ?_⟩⟩⟩
  · simp only [zflr, decide_eq_true h, Bool.not_true, Bool.false_and, cond_false]
  · simp only [zflr, decide_eq_false h, n1 _ h1, n1 _ h2]; rfl
  · simp only [zflr, decide_eq_false h, n1 _ h1, n0 _ h2]; rfl
  · simp only [zflr, decide_eq_false h, n0 _ h1, n1 _ h2]; rfl
  · simp only [zflr, decide_eq_false h, n0 _ h1, n0 _ h2]; rfl
theorem b158 {K : zKt} {code rf rs pr pn : Int32} {bad : Bool} {J : zJt} {m pa pb pc vf vs : Nat → Int32} {B : zBt} {w : Nat → Int64} {p : Nat × Nat} {Q : zR → zH → Prop} {a0 a1 a2 : Int64} (H : ((bad = true → Q (.inl none) (zh K (code, (0 : Int32), (0 : Int32), true, pr, pn, J) (m, pa, pb, pc, vf, vs, B) w)) ∧ (bad = false → (((zin a0 (-a2) a2) = false → Q (.inl none) (zh K (code, (0 : Int32), (0 : Int32), true, pr, pn, J) (m, pa, pb, pc, vf, vs, B) w)) ∧ ((zin a0 (-a2) a2) = true → (((zin a1 (-a2) a2) = true → Q (.inl none) (zh K (code, (a0.toInt32), (a1.toInt32), false, pr, pn, J) (m, pa, pb, pc, vf, vs, B) w)) ∧ ((zin a1 (-a2) a2) = false → Q (.inl none) (zh K (code, (0 : Int32), (0 : Int32), true, pr, pn, J) (m, pa, pb, pc, vf, vs, B) w)))))))) : zT zm_158 [.ref 75, .long a0, .long a1, .long a2] p (zh K (code, rf, rs, bad, pr, pn, J) (m, pa, pb, pc, vf, vs, B) w) Q := by
  change zW zm_158 0 [some (.ref 75), some (.long a0), none, some (.long a1), none, some (.long a2), none] [] p _ Q
  refine zW_bh (zcmp .ne (zbi bad) (0 : Int32)) 32 8 [some (.ref 75), some (.long a0), none, some (.long a1), none, some (.long a2), none] [.ref 75] 4 (fun f => rfl) (fun c => ?_) (fun c => ?_)
  · have c9 : bad = true := ((zcB_ne _).symm.trans c)
    replace H := H.1 c9
    refine zW_gh 37 [some (.ref 75), some (.long a0), none, some (.long a1), none, some (.long a2), none] [.int (1 : Int32), .ref 75] 2 (fun f => rfl) ?_
    refine zW_go (pc' := 40) (L' := [some (.ref 75), some (.long a0), none, some (.long a1), none, some (.long a2), none]) (st' := []) (h' := (va_up (zh K (code, rf, rs, bad, pr, pn, J) (m, pa, pb, pc, vf, vs, B) w) 75 (.inr (7, zfl (code, rf, rs, true, pr, pn, J))))) 1 (fun f => rfl) ?_
    refine zW_eq zu_75 ?_
    refine zW_gh 54 [some (.ref 75), some (.long a0), none, some (.long a1), none, some (.long a2), none] [.int (0 : Int32), .ref 75] 6 (fun f => rfl) ?_
    refine zW_go (pc' := 57) (L' := [some (.ref 75), some (.long a0), none, some (.long a1), none, some (.long a2), none]) (st' := []) (h' := (va_up (zh K (code, rf, rs, true, pr, pn, J) (m, pa, pb, pc, vf, vs, B) w) 75 (.inr (7, zfl (code, (0 : Int32), rs, true, pr, pn, J))))) 1 (fun f => rfl) ?_
    refine zW_eq zu_75 ?_
    refine zW_gh 71 [some (.ref 75), some (.long a0), none, some (.long a1), none, some (.long a2), none] [.int (0 : Int32), .ref 75] 6 (fun f => rfl) ?_
    refine zW_go (pc' := 74) (L' := [some (.ref 75), some (.long a0), none, some (.long a1), none, some (.long a2), none]) (st' := []) (h' := (va_up (zh K (code, (0 : Int32), rs, true, pr, pn, J) (m, pa, pb, pc, vf, vs, B) w) 75 (.inr (7, zfl (code, (0 : Int32), (0 : Int32), true, pr, pn, J))))) 1 (fun f => rfl) ?_
    refine zW_eq zu_75 ?_
    exact zW_rh none 1 (fun f => rfl) H
  · have c9 : bad = false := ((zcB_ne _).symm.trans c)
    replace H := H.2 c9
    refine zW_gh 14 [some (.ref 75), some (.long a0), none, some (.long a1), none, some (.long a2), none] [.long a2, .long (-a2), .long a0, .ref 75] 4 (fun f => rfl) ?_
    refine zW_cl rfl rfl rfl rfl rfl (s141 ?_)
    change zW zm_158 17 [some (.ref 75), some (.long a0), none, some (.long a1), none, some (.long a2), none] [.int (zbi (zin a0 (-a2) a2)), .ref 75] p _ Q
    refine zW_bh (zcmp .eq (zbi (zin a0 (-a2) a2)) (0 : Int32)) 32 20 [some (.ref 75), some (.long a0), none, some (.long a1), none, some (.long a2), none] [.ref 75] 1 (fun f => rfl) (fun c => ?_) (fun c => ?_)
    · have c9 : (zin a0 (-a2) a2) = false := ((Bool.not_eq_true' _).mp ((zcB_eq _).symm.trans c))
      replace H := H.1 c9
      refine zW_gh 37 [some (.ref 75), some (.long a0), none, some (.long a1), none, some (.long a2), none] [.int (1 : Int32), .ref 75] 2 (fun f => rfl) ?_
      refine zW_go (pc' := 40) (L' := [some (.ref 75), some (.long a0), none, some (.long a1), none, some (.long a2), none]) (st' := []) (h' := (va_up (zh K (code, rf, rs, bad, pr, pn, J) (m, pa, pb, pc, vf, vs, B) w) 75 (.inr (7, zfl (code, rf, rs, true, pr, pn, J))))) 1 (fun f => rfl) ?_
      refine zW_eq zu_75 ?_
      refine zW_gh 54 [some (.ref 75), some (.long a0), none, some (.long a1), none, some (.long a2), none] [.int (0 : Int32), .ref 75] 6 (fun f => rfl) ?_
      refine zW_go (pc' := 57) (L' := [some (.ref 75), some (.long a0), none, some (.long a1), none, some (.long a2), none]) (st' := []) (h' := (va_up (zh K (code, rf, rs, true, pr, pn, J) (m, pa, pb, pc, vf, vs, B) w) 75 (.inr (7, zfl (code, (0 : Int32), rs, true, pr, pn, J))))) 1 (fun f => rfl) ?_
      refine zW_eq zu_75 ?_
      refine zW_gh 71 [some (.ref 75), some (.long a0), none, some (.long a1), none, some (.long a2), none] [.int (0 : Int32), .ref 75] 6 (fun f => rfl) ?_
      refine zW_go (pc' := 74) (L' := [some (.ref 75), some (.long a0), none, some (.long a1), none, some (.long a2), none]) (st' := []) (h' := (va_up (zh K (code, (0 : Int32), rs, true, pr, pn, J) (m, pa, pb, pc, vf, vs, B) w) 75 (.inr (7, zfl (code, (0 : Int32), (0 : Int32), true, pr, pn, J))))) 1 (fun f => rfl) ?_
      refine zW_eq zu_75 ?_
      exact zW_rh none 1 (fun f => rfl) H
    · have c9 : (zin a0 (-a2) a2) = true := ((Bool.not_eq_false' _).mp ((zcB_eq _).symm.trans c))
      replace H := H.2 c9
      refine zW_gh 26 [some (.ref 75), some (.long a0), none, some (.long a1), none, some (.long a2), none] [.long a2, .long (-a2), .long a1, .ref 75] 4 (fun f => rfl) ?_
      refine zW_cl rfl rfl rfl rfl rfl (s141 ?_)
      change zW zm_158 29 [some (.ref 75), some (.long a0), none, some (.long a1), none, some (.long a2), none] [.int (zbi (zin a1 (-a2) a2)), .ref 75] p _ Q
      refine zW_bh (zcmp .ne (zbi (zin a1 (-a2) a2)) (0 : Int32)) 36 32 [some (.ref 75), some (.long a0), none, some (.long a1), none, some (.long a2), none] [.ref 75] 1 (fun f => rfl) (fun c => ?_) (fun c => ?_)
      · have c9 : (zin a1 (-a2) a2) = true := ((zcB_ne _).symm.trans c)
        replace H := H.1 c9
        refine zW_gh 37 [some (.ref 75), some (.long a0), none, some (.long a1), none, some (.long a2), none] [.int (0 : Int32), .ref 75] 1 (fun f => rfl) ?_
        refine zW_go (pc' := 40) (L' := [some (.ref 75), some (.long a0), none, some (.long a1), none, some (.long a2), none]) (st' := []) (h' := (va_up (zh K (code, rf, rs, bad, pr, pn, J) (m, pa, pb, pc, vf, vs, B) w) 75 (.inr (7, zfl (code, rf, rs, false, pr, pn, J))))) 1 (fun f => rfl) ?_
        refine zW_eq zu_75 ?_
        refine zW_gh 54 [some (.ref 75), some (.long a0), none, some (.long a1), none, some (.long a2), none] [.int (a0.toInt32), .ref 75] 6 (fun f => rfl) ?_
        refine zW_go (pc' := 57) (L' := [some (.ref 75), some (.long a0), none, some (.long a1), none, some (.long a2), none]) (st' := []) (h' := (va_up (zh K (code, rf, rs, false, pr, pn, J) (m, pa, pb, pc, vf, vs, B) w) 75 (.inr (7, zfl (code, (a0.toInt32), rs, false, pr, pn, J))))) 1 (fun f => rfl) ?_
        refine zW_eq zu_75 ?_
        refine zW_gh 71 [some (.ref 75), some (.long a0), none, some (.long a1), none, some (.long a2), none] [.int (a1.toInt32), .ref 75] 6 (fun f => rfl) ?_
        refine zW_go (pc' := 74) (L' := [some (.ref 75), some (.long a0), none, some (.long a1), none, some (.long a2), none]) (st' := []) (h' := (va_up (zh K (code, (a0.toInt32), rs, false, pr, pn, J) (m, pa, pb, pc, vf, vs, B) w) 75 (.inr (7, zfl (code, (a0.toInt32), (a1.toInt32), false, pr, pn, J))))) 1 (fun f => rfl) ?_
        refine zW_eq zu_75 ?_
        exact zW_rh none 1 (fun f => rfl) H
      · have c9 : (zin a1 (-a2) a2) = false := ((zcB_ne _).symm.trans c)
        replace H := H.2 c9
        refine zW_gh 37 [some (.ref 75), some (.long a0), none, some (.long a1), none, some (.long a2), none] [.int (1 : Int32), .ref 75] 2 (fun f => rfl) ?_
        refine zW_go (pc' := 40) (L' := [some (.ref 75), some (.long a0), none, some (.long a1), none, some (.long a2), none]) (st' := []) (h' := (va_up (zh K (code, rf, rs, bad, pr, pn, J) (m, pa, pb, pc, vf, vs, B) w) 75 (.inr (7, zfl (code, rf, rs, true, pr, pn, J))))) 1 (fun f => rfl) ?_
        refine zW_eq zu_75 ?_
        refine zW_gh 54 [some (.ref 75), some (.long a0), none, some (.long a1), none, some (.long a2), none] [.int (0 : Int32), .ref 75] 6 (fun f => rfl) ?_
        refine zW_go (pc' := 57) (L' := [some (.ref 75), some (.long a0), none, some (.long a1), none, some (.long a2), none]) (st' := []) (h' := (va_up (zh K (code, rf, rs, true, pr, pn, J) (m, pa, pb, pc, vf, vs, B) w) 75 (.inr (7, zfl (code, (0 : Int32), rs, true, pr, pn, J))))) 1 (fun f => rfl) ?_
        refine zW_eq zu_75 ?_
        refine zW_gh 71 [some (.ref 75), some (.long a0), none, some (.long a1), none, some (.long a2), none] [.int (0 : Int32), .ref 75] 6 (fun f => rfl) ?_
        refine zW_go (pc' := 74) (L' := [some (.ref 75), some (.long a0), none, some (.long a1), none, some (.long a2), none]) (st' := []) (h' := (va_up (zh K (code, (0 : Int32), rs, true, pr, pn, J) (m, pa, pb, pc, vf, vs, B) w) 75 (.inr (7, zfl (code, (0 : Int32), (0 : Int32), true, pr, pn, J))))) 1 (fun f => rfl) ?_
        refine zW_eq zu_75 ?_
        exact zW_rh none 1 (fun f => rfl) H
theorem s158 {K : zKt} {code rf rs pr pn : Int32} {bad : Bool} {J : zJt} {m pa pb pc vf vs : Nat → Int32} {B : zBt} {w : Nat → Int64} {p : Nat × Nat} {Q : zR → zH → Prop} {a b c : Int64} (H : Q (.inl none) (zh K (code, (bif zbad bad a b c then 0 else a.toInt32), (bif zbad bad a b c then 0 else b.toInt32), zbad bad a b c, pr, pn, J) (m, pa, pb, pc, vf, vs, B) w)) : zT zm_158 [.ref 75, .long a, .long b, .long c] p (zh K (code, rf, rs, bad, pr, pn, J) (m, pa, pb, pc, vf, vs, B) w) Q := by
  refine b158 ⟨fun h => ?_, fun h => ⟨fun h1 => ?_, fun h1 => ⟨fun h2 => ?_, fun h2 => ?_⟩⟩⟩ <;> simp_all [zbad]
theorem b152 {K : zKt} {code rf rs pr pn : Int32} {bad : Bool} {J : zJt} {m pa pb pc vf vs : Nat → Int32} {B : zBt} {w : Nat → Int64} {p : Nat × Nat} {Q : zR → zH → Prop} {a0 : Nat} {a1 a2 : Int32} (H : (a0 < 5340 ∧ ((a0 + 1) < 5340 ∧ Q (.inl none) (zh K (code, rf, rs, bad, pr, pn, J) ((va_up (va_up m a0 a1) (a0 + 1) a2), pa, pb, pc, vf, vs, B) w)))) : zT zm_152 [.ref 75, .int (Int32.ofNat a0), .int a1, .int a2] p (zh K (code, rf, rs, bad, pr, pn, J) (m, pa, pb, pc, vf, vs, B) w) Q := by
  change zW zm_152 0 [some (.ref 75), some (.int (Int32.ofNat a0)), some (.int a1), some (.int a2)] [] p _ Q
  refine zW_gh 6 [some (.ref 75), some (.int (Int32.ofNat a0)), some (.int a1), some (.int a2)] [.int a1, .int (Int32.ofNat a0), .ref 76] 4 (fun f => rfl) ?_
  obtain ⟨h1, H⟩ := H
  refine zW_iast rfl (by decide) rfl (by decide) zu_76 rfl h1 ?_
  refine zW_gh 15 [some (.ref 75), some (.int (Int32.ofNat a0)), some (.int a1), some (.int a2)] [.int a2, .int ((Int32.ofNat a0) + (1 : Int32)), .ref 76] 6 (fun f => rfl) ?_
  obtain ⟨h2, H⟩ := H
  refine zW_iast rfl (by decide) rfl (by decide) zu_76 (zN_a rfl rfl) h2 ?_
  exact zW_rh none 1 (fun f => rfl) H
theorem s152 {K : zKt} {code rf rs pr pn : Int32} {bad : Bool} {J : zJt} {m pa pb pc vf vs : Nat → Int32} {B : zBt} {w : Nat → Int64} {p : Nat × Nat} {Q : zR → zH → Prop} {x a b : Int32} {n : Nat} (hx : x = Int32.ofNat n) (hn : n + 1 < 5340) (H : Q (.inl none) (zh K (code, rf, rs, bad, pr, pn, J) (va_up (va_up m n a) (n + 1) b, pa, pb, pc, vf, vs, B) w)) : zT zm_152 [.ref 75, .int x, .int a, .int b] p (zh K (code, rf, rs, bad, pr, pn, J) (m, pa, pb, pc, vf, vs, B) w) Q := by
  subst hx
  refine b152 ⟨by omega, by omega, ?_⟩
  exact H
theorem b228 {K : zKt} {code rf rs pr pn ef es : Int32} {bad fin : Bool} {len plc rr rc om : Nat} {m pa pb pc vf vs tx rd ou : Nat → Int32} {w : Nat → Int64} {p : Nat × Nat} {Q : zR → zH → Prop} {a0 : Int32} (H : (plc < 2147483648 ∧ (len < 2147483648 ∧ ((len ≤ plc → Q (.inl (some (.int (0 : Int32)))) (zh K (code, rf, rs, bad, pr, pn, len, plc, fin, ef, es, rr, rc, om) (m, pa, pb, pc, vf, vs, tx, rd, ou) w)) ∧ (plc < len → (plc < 120 ∧ ((¬ (tx plc) = a0 → Q (.inl (some (.int (0 : Int32)))) (zh K (code, rf, rs, bad, pr, pn, len, plc, fin, ef, es, rr, rc, om) (m, pa, pb, pc, vf, vs, tx, rd, ou) w)) ∧ ((tx plc) = a0 → Q (.inl (some (.int (1 : Int32)))) (zh K (code, rf, rs, bad, pr, pn, len, plc, fin, ef, es, rr, rc, om) (m, pa, pb, pc, vf, vs, tx, rd, ou) w))))))))) : zT zm_228 [.ref 75, .int a0] p (zh K (code, rf, rs, bad, pr, pn, len, plc, fin, ef, es, rr, rc, om) (m, pa, pb, pc, vf, vs, tx, rd, ou) w) Q := by
  change zW zm_228 0 [some (.ref 75), some (.int a0)] [] p _ Q
  obtain ⟨h1, H⟩ := H
  obtain ⟨h2, H⟩ := H
  refine zW_bh (zcmp .ge (Int32.ofNat plc) (Int32.ofNat len)) 28 11 [some (.ref 75), some (.int a0)] [] 5 (fun f => rfl) (fun c => ?_) (fun c => ?_)
  · have c9 : len ≤ plc := (of_decide_eq_true ((zcN_ge (a := plc) (b := len) rfl rfl h1 h2).symm.trans c))
    replace H := H.1 c9
    refine zW_gh 29 [some (.ref 75), some (.int a0)] [.int (0 : Int32)] 1 (fun f => rfl) ?_
    exact zW_rh (some (.int (0 : Int32))) 1 (fun f => rfl) H
  · have c9 : plc < len := (Nat.lt_of_not_le (of_decide_eq_false ((zcN_ge (a := plc) (b := len) rfl rfl h1 h2).symm.trans c)))
    replace H := H.2 c9
    refine zW_gh 19 [some (.ref 75), some (.int a0)] [.int (Int32.ofNat plc), .ref 82] 4 (fun f => rfl) ?_
    obtain ⟨h3, H⟩ := H
    refine zW_iald rfl (by decide) rfl (by decide) rfl h3 ?_
    refine zW_bh (zcmp .ne (tx plc) a0) 28 24 [some (.ref 75), some (.int a0)] [] 2 (fun f => rfl) (fun c => ?_) (fun c => ?_)
    · have c9 : ¬ (tx plc) = a0 := (by simpa [zcmp] using c)
      replace H := H.1 c9
      refine zW_gh 29 [some (.ref 75), some (.int a0)] [.int (0 : Int32)] 1 (fun f => rfl) ?_
      exact zW_rh (some (.int (0 : Int32))) 1 (fun f => rfl) H
    · have c9 : (tx plc) = a0 := (by simpa [zcmp] using c)
      replace H := H.2 c9
      refine zW_gh 29 [some (.ref 75), some (.int a0)] [.int (1 : Int32)] 2 (fun f => rfl) ?_
      exact zW_rh (some (.int (1 : Int32))) 1 (fun f => rfl) H
theorem s228 {K : zKt} {code rf rs pr pn ef es : Int32} {bad fin : Bool} {len plc rr rc om : Nat} {m pa pb pc vf vs tx rd ou : Nat → Int32} {w : Nat → Int64} {p : Nat × Nat} {Q : zR → zH → Prop} {a : Int32} (h1 : len ≤ 120) (h2 : plc < 2147483648) (H : Q (.inl (some (.int (zbi (zhere tx len plc a))))) (zh K (code, rf, rs, bad, pr, pn, len, plc, fin, ef, es, rr, rc, om) (m, pa, pb, pc, vf, vs, tx, rd, ou) w)) : zT zm_228 [.ref 75, .int a] p (zh K (code, rf, rs, bad, pr, pn, len, plc, fin, ef, es, rr, rc, om) (m, pa, pb, pc, vf, vs, tx, rd, ou) w) Q := by
  refine b228 ⟨h2, by omega, ?_⟩
  repeat' first | (refine ⟨?_, ?_⟩) | (intro _)
  all_goals first | omega | exact zQt (by simp_all [zhere]; done) H | exact zQf (by simp only [zhere, Bool.and_eq_false_iff, decide_eq_false_iff_not]; left; omega) H | exact zQf (by simp_all [zhere, zdgh]; done) H
theorem b235 {K : zKt} {code rf rs pr pn ef es : Int32} {bad fin : Bool} {len plc rr rc om : Nat} {m pa pb pc vf vs tx rd ou : Nat → Int32} {w : Nat → Int64} {p : Nat × Nat} {Q : zR → zH → Prop} (H : (plc < 2147483648 ∧ (len < 2147483648 ∧ ((len ≤ plc → Q (.inl (some (.int (0 : Int32)))) (zh K (code, rf, rs, bad, pr, pn, len, plc, fin, ef, es, rr, rc, om) (m, pa, pb, pc, vf, vs, tx, rd, ou) w)) ∧ (plc < len → (plc < 120 ∧ (((zin (((tx plc)).toInt64) (48 : Int64) (57 : Int64)) = false → Q (.inl (some (.int (0 : Int32)))) (zh K (code, rf, rs, bad, pr, pn, len, plc, fin, ef, es, rr, rc, om) (m, pa, pb, pc, vf, vs, tx, rd, ou) w)) ∧ ((zin (((tx plc)).toInt64) (48 : Int64) (57 : Int64)) = true → Q (.inl (some (.int (1 : Int32)))) (zh K (code, rf, rs, bad, pr, pn, len, plc, fin, ef, es, rr, rc, om) (m, pa, pb, pc, vf, vs, tx, rd, ou) w))))))))) : zT zm_235 [.ref 75] p (zh K (code, rf, rs, bad, pr, pn, len, plc, fin, ef, es, rr, rc, om) (m, pa, pb, pc, vf, vs, tx, rd, ou) w) Q := by
  change zW zm_235 0 [some (.ref 75)] [] p _ Q
  obtain ⟨h1, H⟩ := H
  obtain ⟨h2, H⟩ := H
  refine zW_bh (zcmp .ge (Int32.ofNat plc) (Int32.ofNat len)) 37 11 [some (.ref 75)] [] 5 (fun f => rfl) (fun c => ?_) (fun c => ?_)
  · have c9 : len ≤ plc := (of_decide_eq_true ((zcN_ge (a := plc) (b := len) rfl rfl h1 h2).symm.trans c))
    replace H := H.1 c9
    refine zW_gh 38 [some (.ref 75)] [.int (0 : Int32)] 1 (fun f => rfl) ?_
    exact zW_rh (some (.int (0 : Int32))) 1 (fun f => rfl) H
  · have c9 : plc < len := (Nat.lt_of_not_le (of_decide_eq_false ((zcN_ge (a := plc) (b := len) rfl rfl h1 h2).symm.trans c)))
    replace H := H.2 c9
    refine zW_gh 19 [some (.ref 75)] [.int (Int32.ofNat plc), .ref 82] 4 (fun f => rfl) ?_
    obtain ⟨h3, H⟩ := H
    refine zW_iald rfl (by decide) rfl (by decide) rfl h3 ?_
    refine zW_gh 27 [some (.ref 75)] [.long (57 : Int64), .long (48 : Int64), .long (((tx plc)).toInt64)] 3 (fun f => rfl) ?_
    refine zW_cl rfl rfl rfl rfl rfl (s141 ?_)
    change zW zm_235 30 [some (.ref 75)] [.int (zbi (zin (((tx plc)).toInt64) (48 : Int64) (57 : Int64)))] p _ Q
    refine zW_bh (zcmp .eq (zbi (zin (((tx plc)).toInt64) (48 : Int64) (57 : Int64))) (0 : Int32)) 37 33 [some (.ref 75)] [] 1 (fun f => rfl) (fun c => ?_) (fun c => ?_)
    · have c9 : (zin (((tx plc)).toInt64) (48 : Int64) (57 : Int64)) = false := ((Bool.not_eq_true' _).mp ((zcB_eq _).symm.trans c))
      replace H := H.1 c9
      refine zW_gh 38 [some (.ref 75)] [.int (0 : Int32)] 1 (fun f => rfl) ?_
      exact zW_rh (some (.int (0 : Int32))) 1 (fun f => rfl) H
    · have c9 : (zin (((tx plc)).toInt64) (48 : Int64) (57 : Int64)) = true := ((Bool.not_eq_false' _).mp ((zcB_eq _).symm.trans c))
      replace H := H.2 c9
      refine zW_gh 38 [some (.ref 75)] [.int (1 : Int32)] 2 (fun f => rfl) ?_
      exact zW_rh (some (.int (1 : Int32))) 1 (fun f => rfl) H
theorem s235 {K : zKt} {code rf rs pr pn ef es : Int32} {bad fin : Bool} {len plc rr rc om : Nat} {m pa pb pc vf vs tx rd ou : Nat → Int32} {w : Nat → Int64} {p : Nat × Nat} {Q : zR → zH → Prop} (h1 : len ≤ 120) (h2 : plc < 2147483648) (H : Q (.inl (some (.int (zbi (zdgh tx len plc))))) (zh K (code, rf, rs, bad, pr, pn, len, plc, fin, ef, es, rr, rc, om) (m, pa, pb, pc, vf, vs, tx, rd, ou) w)) : zT zm_235 [.ref 75] p (zh K (code, rf, rs, bad, pr, pn, len, plc, fin, ef, es, rr, rc, om) (m, pa, pb, pc, vf, vs, tx, rd, ou) w) Q := by
  refine b235 ⟨h2, by omega, ?_⟩
  repeat' first | (refine ⟨?_, ?_⟩) | (intro _)
  all_goals first | omega | exact zQt (by simp_all [zdgh]; done) H | exact zQf (by simp only [zdgh, Bool.and_eq_false_iff, decide_eq_false_iff_not]; left; omega) H | exact zQf (by simp_all [zhere, zdgh]; done) H
theorem b229 {K : zKt} {code rf rs pr pn ef es : Int32} {bad fin : Bool} {len plc rr rc om : Nat} {m pa pb pc vf vs tx rd ou : Nat → Int32} {w : Nat → Int64} {p : Nat × Nat} {Q : zR → zH → Prop} {a0 : Bool} (H : ((fin = false → Q (.inl none) (zh K (code, rf, rs, bad, pr, pn, len, plc, false, ef, es, rr, rc, om) (m, pa, pb, pc, vf, vs, tx, rd, ou) w)) ∧ (fin = true → ((a0 = false → Q (.inl none) (zh K (code, rf, rs, bad, pr, pn, len, plc, false, ef, es, rr, rc, om) (m, pa, pb, pc, vf, vs, tx, rd, ou) w)) ∧ (a0 = true → Q (.inl none) (zh K (code, rf, rs, bad, pr, pn, len, plc, true, ef, es, rr, rc, om) (m, pa, pb, pc, vf, vs, tx, rd, ou) w)))))) : zT zm_229 [.ref 75, .int (zbi a0)] p (zh K (code, rf, rs, bad, pr, pn, len, plc, fin, ef, es, rr, rc, om) (m, pa, pb, pc, vf, vs, tx, rd, ou) w) Q := by
  change zW zm_229 0 [some (.ref 75), some (.int (zbi a0))] [] p _ Q
  refine zW_bh (zcmp .eq (zbi fin) (0 : Int32)) 16 8 [some (.ref 75), some (.int (zbi a0))] [.ref 75] 4 (fun f => rfl) (fun c => ?_) (fun c => ?_)
  · have c9 : fin = false := ((Bool.not_eq_true' _).mp ((zcB_eq _).symm.trans c))
    replace H := H.1 c9
    refine zW_gh 17 [some (.ref 75), some (.int (zbi a0))] [.int (0 : Int32), .ref 75] 1 (fun f => rfl) ?_
    refine zW_go (pc' := 20) (L' := [some (.ref 75), some (.int (zbi a0))]) (st' := []) (h' := (va_up (zh K (code, rf, rs, bad, pr, pn, len, plc, fin, ef, es, rr, rc, om) (m, pa, pb, pc, vf, vs, tx, rd, ou) w) 75 (.inr (7, zfl (code, rf, rs, bad, pr, pn, len, plc, false, ef, es, rr, rc, om))))) 1 (fun f => rfl) ?_
    refine zW_eq zu_75 ?_
    exact zW_rh none 1 (fun f => rfl) H
  · have c9 : fin = true := ((Bool.not_eq_false' _).mp ((zcB_eq _).symm.trans c))
    replace H := H.2 c9
    refine zW_bh (zcmp .eq (zbi a0) (0 : Int32)) 16 12 [some (.ref 75), some (.int (zbi a0))] [.ref 75] 2 (fun f => rfl) (fun c => ?_) (fun c => ?_)
    · have c9 : a0 = false := ((Bool.not_eq_true' _).mp ((zcB_eq _).symm.trans c))
      replace H := H.1 c9
      refine zW_gh 17 [some (.ref 75), some (.int (zbi a0))] [.int (0 : Int32), .ref 75] 1 (fun f => rfl) ?_
      refine zW_go (pc' := 20) (L' := [some (.ref 75), some (.int (zbi a0))]) (st' := []) (h' := (va_up (zh K (code, rf, rs, bad, pr, pn, len, plc, fin, ef, es, rr, rc, om) (m, pa, pb, pc, vf, vs, tx, rd, ou) w) 75 (.inr (7, zfl (code, rf, rs, bad, pr, pn, len, plc, false, ef, es, rr, rc, om))))) 1 (fun f => rfl) ?_
      refine zW_eq zu_75 ?_
      exact zW_rh none 1 (fun f => rfl) H
    · have c9 : a0 = true := ((Bool.not_eq_false' _).mp ((zcB_eq _).symm.trans c))
      replace H := H.2 c9
      refine zW_gh 17 [some (.ref 75), some (.int (zbi a0))] [.int (1 : Int32), .ref 75] 2 (fun f => rfl) ?_
      refine zW_go (pc' := 20) (L' := [some (.ref 75), some (.int (zbi a0))]) (st' := []) (h' := (va_up (zh K (code, rf, rs, bad, pr, pn, len, plc, fin, ef, es, rr, rc, om) (m, pa, pb, pc, vf, vs, tx, rd, ou) w) 75 (.inr (7, zfl (code, rf, rs, bad, pr, pn, len, plc, true, ef, es, rr, rc, om))))) 1 (fun f => rfl) ?_
      refine zW_eq zu_75 ?_
      exact zW_rh none 1 (fun f => rfl) H
theorem s229 {K : zKt} {code rf rs pr pn ef es : Int32} {bad fin : Bool} {len plc rr rc om : Nat} {m pa pb pc vf vs tx rd ou : Nat → Int32} {w : Nat → Int64} {p : Nat × Nat} {Q : zR → zH → Prop} {b : Bool} (H : Q (.inl none) (zh K (code, rf, rs, bad, pr, pn, len, plc, (fin && b), ef, es, rr, rc, om) (m, pa, pb, pc, vf, vs, tx, rd, ou) w)) : zT zm_229 [.ref 75, .int (zbi b)] p (zh K (code, rf, rs, bad, pr, pn, len, plc, fin, ef, es, rr, rc, om) (m, pa, pb, pc, vf, vs, tx, rd, ou) w) Q := by
  refine b229 ⟨fun h => ?_, fun h => ⟨fun h1 => ?_, fun h1 => ?_⟩⟩ <;> simp_all
theorem b241 {K : zKt} {code rf rs pr pn ef es : Int32} {bad fin : Bool} {len plc rr rc om : Nat} {m pa pb pc vf vs tx rd ou : Nat → Int32} {w : Nat → Int64} {p : Nat × Nat} {Q : zR → zH → Prop} {a0 : Int32} (H : (om < 600 ∧ Q (.inl none) (zh K (code, rf, rs, bad, pr, pn, len, plc, fin, ef, es, rr, rc, (om + 1)) (m, pa, pb, pc, vf, vs, tx, rd, (va_up ou om a0)) w))) : zT zm_241 [.ref 75, .int a0] p (zh K (code, rf, rs, bad, pr, pn, len, plc, fin, ef, es, rr, rc, om) (m, pa, pb, pc, vf, vs, tx, rd, ou) w) Q := by
  change zW zm_241 0 [some (.ref 75), some (.int a0)] [] p _ Q
  refine zW_gh 9 [some (.ref 75), some (.int a0)] [.int a0, .int (Int32.ofNat om), .ref 84] 5 (fun f => rfl) ?_
  obtain ⟨h1, H⟩ := H
  refine zW_iast rfl (by decide) rfl (by decide) zu_84 rfl h1 ?_
  refine zW_gh 17 [some (.ref 75), some (.int a0)] [.int ((Int32.ofNat om) + (1 : Int32)), .ref 75] 5 (fun f => rfl) ?_
  rw [show ((Int32.ofNat om) + (1 : Int32)) = Int32.ofNat (om + 1) from (zN_a rfl rfl)]
  refine zW_go (pc' := 20) (L' := [some (.ref 75), some (.int a0)]) (st' := []) (h' := (va_up (zh K (code, rf, rs, bad, pr, pn, len, plc, fin, ef, es, rr, rc, om) (m, pa, pb, pc, vf, vs, tx, rd, (va_up ou om a0)) w) 75 (.inr (7, zfl (code, rf, rs, bad, pr, pn, len, plc, fin, ef, es, rr, rc, (om + 1)))))) 1 (fun f => rfl) ?_
  refine zW_eq zu_75 ?_
  exact zW_rh none 1 (fun f => rfl) H
theorem s241 {K : zKt} {code rf rs pr pn ef es : Int32} {bad fin : Bool} {len plc rr rc om : Nat} {m pa pb pc vf vs tx rd ou : Nat → Int32} {w : Nat → Int64} {p : Nat × Nat} {Q : zR → zH → Prop} {a : Int32} (h : om < 600) (H : Q (.inl none) (zh K (code, rf, rs, bad, pr, pn, len, plc, fin, ef, es, rr, rc, om + 1) (m, pa, pb, pc, vf, vs, tx, rd, va_up ou om a) w)) : zT zm_241 [.ref 75, .int a] p (zh K (code, rf, rs, bad, pr, pn, len, plc, fin, ef, es, rr, rc, om) (m, pa, pb, pc, vf, vs, tx, rd, ou) w) Q := by
  exact b241 ⟨h, H⟩
theorem b148 {K : zKt} {code rf rs pr pn : Int32} {bad : Bool} {J : zJt} {m pa pb pc vf vs : Nat → Int32} {B : zBt} {w : Nat → Int64} {p : Nat × Nat} {Q : zR → zH → Prop} {a0 : Nat} {a1 a2 : Int32} (H : (((1068 * a0) + 1) < 5340 ∧ (((zin ((a1).toInt64) (0 : Int64) ((((m ((1068 * a0) + 1)) - (1 : Int32))).toInt64)) = false → Q (.inl (some (.int (0 : Int32)))) (zh K (code, rf, rs, bad, pr, pn, J) (m, pa, pb, pc, vf, vs, B) w)) ∧ ((zin ((a1).toInt64) (0 : Int64) ((((m ((1068 * a0) + 1)) - (1 : Int32))).toInt64)) = true → ∀ k_a1, k_a1 < 2147483648 → a1 = Int32.ofNat k_a1 → (((1068 * a0) + 2) < 5340 ∧ (((zin ((a2).toInt64) (0 : Int64) ((((m ((1068 * a0) + 2)) - (1 : Int32))).toInt64)) = false → Q (.inl (some (.int (0 : Int32)))) (zh K (code, rf, rs, bad, pr, pn, J) (m, pa, pb, pc, vf, vs, B) w)) ∧ ((zin ((a2).toInt64) (0 : Int64) ((((m ((1068 * a0) + 2)) - (1 : Int32))).toInt64)) = true → ∀ k_a2, k_a2 < 2147483648 → a2 = Int32.ofNat k_a2 → Q (.inl (some (.int (1 : Int32)))) (zh K (code, rf, rs, bad, pr, pn, J) (m, pa, pb, pc, vf, vs, B) w)))))))) : zT zm_148 [.ref 75, .int (Int32.ofNat a0), .int a1, .int a2] p (zh K (code, rf, rs, bad, pr, pn, J) (m, pa, pb, pc, vf, vs, B) w) Q := by
  change zW zm_148 0 [some (.ref 75), some (.int (Int32.ofNat a0)), some (.int a1), some (.int a2)] [] p _ Q
  refine zW_gh 13 [some (.ref 75), some (.int (Int32.ofNat a0)), some (.int a1), some (.int a2)] [.int (1 : Int32), .int ((1068 : Int32) * (Int32.ofNat a0)), .ref 76, .long (0 : Int64), .long ((a1).toInt64)] 9 (fun f => rfl) ?_
  refine zW_gh 14 [some (.ref 75), some (.int (Int32.ofNat a0)), some (.int a1), some (.int a2)] [.int (((1068 : Int32) * (Int32.ofNat a0)) + (1 : Int32)), .ref 76, .long (0 : Int64), .long ((a1).toInt64)] 1 (fun f => rfl) ?_
  obtain ⟨h1, H⟩ := H
  refine zW_iald rfl (by decide) rfl (by decide) (zN_a (zN_m rfl rfl) rfl) h1 ?_
  refine zW_gh 18 [some (.ref 75), some (.int (Int32.ofNat a0)), some (.int a1), some (.int a2)] [.long ((((m ((1068 * a0) + 1)) - (1 : Int32))).toInt64), .long (0 : Int64), .long ((a1).toInt64)] 3 (fun f => rfl) ?_
  refine zW_cl rfl rfl rfl rfl rfl (s141 ?_)
  change zW zm_148 21 [some (.ref 75), some (.int (Int32.ofNat a0)), some (.int a1), some (.int a2)] [.int (zbi (zin ((a1).toInt64) (0 : Int64) ((((m ((1068 * a0) + 1)) - (1 : Int32))).toInt64)))] p _ Q
  refine zW_bh (zcmp .eq (zbi (zin ((a1).toInt64) (0 : Int64) ((((m ((1068 * a0) + 1)) - (1 : Int32))).toInt64))) (0 : Int32)) 52 24 [some (.ref 75), some (.int (Int32.ofNat a0)), some (.int a1), some (.int a2)] [] 1 (fun f => rfl) (fun c => ?_) (fun c => ?_)
  · have c9 : (zin ((a1).toInt64) (0 : Int64) ((((m ((1068 * a0) + 1)) - (1 : Int32))).toInt64)) = false := ((Bool.not_eq_true' _).mp ((zcB_eq _).symm.trans c))
    replace H := H.1 c9
    refine zW_gh 53 [some (.ref 75), some (.int (Int32.ofNat a0)), some (.int a1), some (.int a2)] [.int (0 : Int32)] 1 (fun f => rfl) ?_
    exact zW_rh (some (.int (0 : Int32))) 1 (fun f => rfl) H
  · have c9 : (zin ((a1).toInt64) (0 : Int64) ((((m ((1068 * a0) + 1)) - (1 : Int32))).toInt64)) = true := ((Bool.not_eq_false' _).mp ((zcB_eq _).symm.trans c))
    replace H := H.2 c9
    obtain ⟨k_a1, h_k_a1, e_k_a1⟩ := zin_b (by decide) c9
    replace H := H k_a1 h_k_a1 e_k_a1
    subst e_k_a1
    refine zW_gh 37 [some (.ref 75), some (.int (Int32.ofNat a0)), some (.int (Int32.ofNat k_a1)), some (.int a2)] [.int (2 : Int32), .int ((1068 : Int32) * (Int32.ofNat a0)), .ref 76, .long (0 : Int64), .long ((a2).toInt64)] 9 (fun f => rfl) ?_
    refine zW_gh 38 [some (.ref 75), some (.int (Int32.ofNat a0)), some (.int (Int32.ofNat k_a1)), some (.int a2)] [.int (((1068 : Int32) * (Int32.ofNat a0)) + (2 : Int32)), .ref 76, .long (0 : Int64), .long ((a2).toInt64)] 1 (fun f => rfl) ?_
    obtain ⟨h2, H⟩ := H
    refine zW_iald rfl (by decide) rfl (by decide) (zN_a (zN_m rfl rfl) rfl) h2 ?_
    refine zW_gh 42 [some (.ref 75), some (.int (Int32.ofNat a0)), some (.int (Int32.ofNat k_a1)), some (.int a2)] [.long ((((m ((1068 * a0) + 2)) - (1 : Int32))).toInt64), .long (0 : Int64), .long ((a2).toInt64)] 3 (fun f => rfl) ?_
    refine zW_cl rfl rfl rfl rfl rfl (s141 ?_)
    change zW zm_148 45 [some (.ref 75), some (.int (Int32.ofNat a0)), some (.int (Int32.ofNat k_a1)), some (.int a2)] [.int (zbi (zin ((a2).toInt64) (0 : Int64) ((((m ((1068 * a0) + 2)) - (1 : Int32))).toInt64)))] p _ Q
    refine zW_bh (zcmp .eq (zbi (zin ((a2).toInt64) (0 : Int64) ((((m ((1068 * a0) + 2)) - (1 : Int32))).toInt64))) (0 : Int32)) 52 48 [some (.ref 75), some (.int (Int32.ofNat a0)), some (.int (Int32.ofNat k_a1)), some (.int a2)] [] 1 (fun f => rfl) (fun c => ?_) (fun c => ?_)
    · have c9 : (zin ((a2).toInt64) (0 : Int64) ((((m ((1068 * a0) + 2)) - (1 : Int32))).toInt64)) = false := ((Bool.not_eq_true' _).mp ((zcB_eq _).symm.trans c))
      replace H := H.1 c9
      refine zW_gh 53 [some (.ref 75), some (.int (Int32.ofNat a0)), some (.int (Int32.ofNat k_a1)), some (.int a2)] [.int (0 : Int32)] 1 (fun f => rfl) ?_
      exact zW_rh (some (.int (0 : Int32))) 1 (fun f => rfl) H
    · have c9 : (zin ((a2).toInt64) (0 : Int64) ((((m ((1068 * a0) + 2)) - (1 : Int32))).toInt64)) = true := ((Bool.not_eq_false' _).mp ((zcB_eq _).symm.trans c))
      replace H := H.2 c9
      obtain ⟨k_a2, h_k_a2, e_k_a2⟩ := zin_b (by decide) c9
      replace H := H k_a2 h_k_a2 e_k_a2
      subst e_k_a2
      refine zW_gh 53 [some (.ref 75), some (.int (Int32.ofNat a0)), some (.int (Int32.ofNat k_a1)), some (.int (Int32.ofNat k_a2))] [.int (1 : Int32)] 2 (fun f => rfl) ?_
      exact zW_rh (some (.int (1 : Int32))) 1 (fun f => rfl) H
theorem s148 {K : zKt} {code rf rs pr pn : Int32} {bad : Bool} {J : zJt} {m pa pb pc vf vs : Nat → Int32} {B : zBt} {w : Nat → Int64} {p : Nat × Nat} {Q : zR → zH → Prop} {x a b : Int32} {n : Nat} (hx : x = Int32.ofNat n) (hn : 1068 * n + 2 < 5340) (H : Q (.inl (some (.int (zbi (zhasE m n a b))))) (zh K (code, rf, rs, bad, pr, pn, J) (m, pa, pb, pc, vf, vs, B) w)) : zT zm_148 [.ref 75, .int x, .int a, .int b] p (zh K (code, rf, rs, bad, pr, pn, J) (m, pa, pb, pc, vf, vs, B) w) Q := by
  subst hx
  refine b148 ?_
  repeat' first | (refine ⟨?_, ?_⟩) | (intro _)
  all_goals first | omega | exact zQt (by simp_all [zhasE]) H | exact zQf (by simp_all [zhasE]) H
theorem b171 {K : zKt} {code rf rs pr pn : Int32} {bad : Bool} {J : zJt} {m pa pb pc vf vs : Nat → Int32} {B : zBt} {w : Nat → Int64} {p : Nat × Nat} {Q : zR → zH → Prop} {a0 : Nat} {a2 a3 : Int32} {a1 : Bool} (H : ((a1 = false → (((1068 * a0) + 1) < 5340 ∧ (((zin ((a2).toInt64) (0 : Int64) ((((m ((1068 * a0) + 1)) - (1 : Int32))).toInt64)) = false → Q (.inl (some (.int (0 : Int32)))) (zh K (code, rf, rs, bad, pr, pn, J) (m, pa, pb, pc, vf, vs, B) w)) ∧ ((zin ((a2).toInt64) (0 : Int64) ((((m ((1068 * a0) + 1)) - (1 : Int32))).toInt64)) = true → ∀ k_a2, k_a2 < 2147483648 → a2 = Int32.ofNat k_a2 → (((zin ((a3).toInt64) (0 : Int64) ((((m ((1068 * a0) + 1)) - (1 : Int32))).toInt64)) = false → Q (.inl (some (.int (0 : Int32)))) (zh K (code, rf, rs, bad, pr, pn, J) (m, pa, pb, pc, vf, vs, B) w)) ∧ ((zin ((a3).toInt64) (0 : Int64) ((((m ((1068 * a0) + 1)) - (1 : Int32))).toInt64)) = true → ∀ k_a3, k_a3 < 2147483648 → a3 = Int32.ofNat k_a3 → Q (.inl (some (.int (1 : Int32)))) (zh K (code, rf, rs, bad, pr, pn, J) (m, pa, pb, pc, vf, vs, B) w))))))) ∧ (a1 = true → (((1068 * a0) + 2) < 5340 ∧ (((zin ((a2).toInt64) (0 : Int64) ((((m ((1068 * a0) + 2)) - (1 : Int32))).toInt64)) = false → Q (.inl (some (.int (0 : Int32)))) (zh K (code, rf, rs, bad, pr, pn, J) (m, pa, pb, pc, vf, vs, B) w)) ∧ ((zin ((a2).toInt64) (0 : Int64) ((((m ((1068 * a0) + 2)) - (1 : Int32))).toInt64)) = true → ∀ k_a2, k_a2 < 2147483648 → a2 = Int32.ofNat k_a2 → (((zin ((a3).toInt64) (0 : Int64) ((((m ((1068 * a0) + 2)) - (1 : Int32))).toInt64)) = false → Q (.inl (some (.int (0 : Int32)))) (zh K (code, rf, rs, bad, pr, pn, J) (m, pa, pb, pc, vf, vs, B) w)) ∧ ((zin ((a3).toInt64) (0 : Int64) ((((m ((1068 * a0) + 2)) - (1 : Int32))).toInt64)) = true → ∀ k_a3, k_a3 < 2147483648 → a3 = Int32.ofNat k_a3 → Q (.inl (some (.int (1 : Int32)))) (zh K (code, rf, rs, bad, pr, pn, J) (m, pa, pb, pc, vf, vs, B) w))))))))) : zT zm_171 [.ref 75, .int (Int32.ofNat a0), .int (zbi a1), .int a2, .int a3] p (zh K (code, rf, rs, bad, pr, pn, J) (m, pa, pb, pc, vf, vs, B) w) Q := by
  change zW zm_171 0 [some (.ref 75), some (.int (Int32.ofNat a0)), some (.int (zbi a1)), some (.int a2), some (.int a3), none] [] p _ Q
  refine zW_bh (zcmp .eq (zbi a1) (0 : Int32)) 17 13 [some (.ref 75), some (.int (Int32.ofNat a0)), some (.int (zbi a1)), some (.int a2), some (.int a3), none] [.int ((1068 : Int32) * (Int32.ofNat a0)), .ref 76] 7 (fun f => rfl) (fun c => ?_) (fun c => ?_)
  · have c9 : a1 = false := ((Bool.not_eq_true' _).mp ((zcB_eq _).symm.trans c))
    replace H := H.1 c9
    refine zW_gh 19 [some (.ref 75), some (.int (Int32.ofNat a0)), some (.int (zbi a1)), some (.int a2), some (.int a3), none] [.int (((1068 : Int32) * (Int32.ofNat a0)) + (1 : Int32)), .ref 76] 2 (fun f => rfl) ?_
    obtain ⟨h1, H⟩ := H
    refine zW_iald rfl (by decide) rfl (by decide) (zN_a (zN_m rfl rfl) rfl) h1 ?_
    refine zW_gh 30 [some (.ref 75), some (.int (Int32.ofNat a0)), some (.int (zbi a1)), some (.int a2), some (.int a3), some (.int (m ((1068 * a0) + 1)))] [.long ((((m ((1068 * a0) + 1)) - (1 : Int32))).toInt64), .long (0 : Int64), .long ((a2).toInt64)] 8 (fun f => rfl) ?_
    refine zW_cl rfl rfl rfl rfl rfl (s141 ?_)
    change zW zm_171 33 [some (.ref 75), some (.int (Int32.ofNat a0)), some (.int (zbi a1)), some (.int a2), some (.int a3), some (.int (m ((1068 * a0) + 1)))] [.int (zbi (zin ((a2).toInt64) (0 : Int64) ((((m ((1068 * a0) + 1)) - (1 : Int32))).toInt64)))] p _ Q
    refine zW_bh (zcmp .eq (zbi (zin ((a2).toInt64) (0 : Int64) ((((m ((1068 * a0) + 1)) - (1 : Int32))).toInt64))) (0 : Int32)) 55 36 [some (.ref 75), some (.int (Int32.ofNat a0)), some (.int (zbi a1)), some (.int a2), some (.int a3), some (.int (m ((1068 * a0) + 1)))] [] 1 (fun f => rfl) (fun c => ?_) (fun c => ?_)
    · have c9 : (zin ((a2).toInt64) (0 : Int64) ((((m ((1068 * a0) + 1)) - (1 : Int32))).toInt64)) = false := ((Bool.not_eq_true' _).mp ((zcB_eq _).symm.trans c))
      replace H := H.1 c9
      refine zW_gh 56 [some (.ref 75), some (.int (Int32.ofNat a0)), some (.int (zbi a1)), some (.int a2), some (.int a3), some (.int (m ((1068 * a0) + 1)))] [.int (0 : Int32)] 1 (fun f => rfl) ?_
      exact zW_rh (some (.int (0 : Int32))) 1 (fun f => rfl) H
    · have c9 : (zin ((a2).toInt64) (0 : Int64) ((((m ((1068 * a0) + 1)) - (1 : Int32))).toInt64)) = true := ((Bool.not_eq_false' _).mp ((zcB_eq _).symm.trans c))
      replace H := H.2 c9
      obtain ⟨k_a2, h_k_a2, e_k_a2⟩ := zin_b (by decide) c9
      replace H := H k_a2 h_k_a2 e_k_a2
      subst e_k_a2
      refine zW_gh 45 [some (.ref 75), some (.int (Int32.ofNat a0)), some (.int (zbi a1)), some (.int (Int32.ofNat k_a2)), some (.int a3), some (.int (m ((1068 * a0) + 1)))] [.long ((((m ((1068 * a0) + 1)) - (1 : Int32))).toInt64), .long (0 : Int64), .long ((a3).toInt64)] 7 (fun f => rfl) ?_
      refine zW_cl rfl rfl rfl rfl rfl (s141 ?_)
      change zW zm_171 48 [some (.ref 75), some (.int (Int32.ofNat a0)), some (.int (zbi a1)), some (.int (Int32.ofNat k_a2)), some (.int a3), some (.int (m ((1068 * a0) + 1)))] [.int (zbi (zin ((a3).toInt64) (0 : Int64) ((((m ((1068 * a0) + 1)) - (1 : Int32))).toInt64)))] p _ Q
      refine zW_bh (zcmp .eq (zbi (zin ((a3).toInt64) (0 : Int64) ((((m ((1068 * a0) + 1)) - (1 : Int32))).toInt64))) (0 : Int32)) 55 51 [some (.ref 75), some (.int (Int32.ofNat a0)), some (.int (zbi a1)), some (.int (Int32.ofNat k_a2)), some (.int a3), some (.int (m ((1068 * a0) + 1)))] [] 1 (fun f => rfl) (fun c => ?_) (fun c => ?_)
      · have c9 : (zin ((a3).toInt64) (0 : Int64) ((((m ((1068 * a0) + 1)) - (1 : Int32))).toInt64)) = false := ((Bool.not_eq_true' _).mp ((zcB_eq _).symm.trans c))
        replace H := H.1 c9
        refine zW_gh 56 [some (.ref 75), some (.int (Int32.ofNat a0)), some (.int (zbi a1)), some (.int (Int32.ofNat k_a2)), some (.int a3), some (.int (m ((1068 * a0) + 1)))] [.int (0 : Int32)] 1 (fun f => rfl) ?_
        exact zW_rh (some (.int (0 : Int32))) 1 (fun f => rfl) H
      · have c9 : (zin ((a3).toInt64) (0 : Int64) ((((m ((1068 * a0) + 1)) - (1 : Int32))).toInt64)) = true := ((Bool.not_eq_false' _).mp ((zcB_eq _).symm.trans c))
        replace H := H.2 c9
        obtain ⟨k_a3, h_k_a3, e_k_a3⟩ := zin_b (by decide) c9
        replace H := H k_a3 h_k_a3 e_k_a3
        subst e_k_a3
        refine zW_gh 56 [some (.ref 75), some (.int (Int32.ofNat a0)), some (.int (zbi a1)), some (.int (Int32.ofNat k_a2)), some (.int (Int32.ofNat k_a3)), some (.int (m ((1068 * a0) + 1)))] [.int (1 : Int32)] 2 (fun f => rfl) ?_
        exact zW_rh (some (.int (1 : Int32))) 1 (fun f => rfl) H
  · have c9 : a1 = true := ((Bool.not_eq_false' _).mp ((zcB_eq _).symm.trans c))
    replace H := H.2 c9
    refine zW_gh 19 [some (.ref 75), some (.int (Int32.ofNat a0)), some (.int (zbi a1)), some (.int a2), some (.int a3), none] [.int (((1068 : Int32) * (Int32.ofNat a0)) + (2 : Int32)), .ref 76] 3 (fun f => rfl) ?_
    obtain ⟨h2, H⟩ := H
    refine zW_iald rfl (by decide) rfl (by decide) (zN_a (zN_m rfl rfl) rfl) h2 ?_
    refine zW_gh 30 [some (.ref 75), some (.int (Int32.ofNat a0)), some (.int (zbi a1)), some (.int a2), some (.int a3), some (.int (m ((1068 * a0) + 2)))] [.long ((((m ((1068 * a0) + 2)) - (1 : Int32))).toInt64), .long (0 : Int64), .long ((a2).toInt64)] 8 (fun f => rfl) ?_
    refine zW_cl rfl rfl rfl rfl rfl (s141 ?_)
    change zW zm_171 33 [some (.ref 75), some (.int (Int32.ofNat a0)), some (.int (zbi a1)), some (.int a2), some (.int a3), some (.int (m ((1068 * a0) + 2)))] [.int (zbi (zin ((a2).toInt64) (0 : Int64) ((((m ((1068 * a0) + 2)) - (1 : Int32))).toInt64)))] p _ Q
    refine zW_bh (zcmp .eq (zbi (zin ((a2).toInt64) (0 : Int64) ((((m ((1068 * a0) + 2)) - (1 : Int32))).toInt64))) (0 : Int32)) 55 36 [some (.ref 75), some (.int (Int32.ofNat a0)), some (.int (zbi a1)), some (.int a2), some (.int a3), some (.int (m ((1068 * a0) + 2)))] [] 1 (fun f => rfl) (fun c => ?_) (fun c => ?_)
    · have c9 : (zin ((a2).toInt64) (0 : Int64) ((((m ((1068 * a0) + 2)) - (1 : Int32))).toInt64)) = false := ((Bool.not_eq_true' _).mp ((zcB_eq _).symm.trans c))
      replace H := H.1 c9
      refine zW_gh 56 [some (.ref 75), some (.int (Int32.ofNat a0)), some (.int (zbi a1)), some (.int a2), some (.int a3), some (.int (m ((1068 * a0) + 2)))] [.int (0 : Int32)] 1 (fun f => rfl) ?_
      exact zW_rh (some (.int (0 : Int32))) 1 (fun f => rfl) H
    · have c9 : (zin ((a2).toInt64) (0 : Int64) ((((m ((1068 * a0) + 2)) - (1 : Int32))).toInt64)) = true := ((Bool.not_eq_false' _).mp ((zcB_eq _).symm.trans c))
      replace H := H.2 c9
      obtain ⟨k_a2, h_k_a2, e_k_a2⟩ := zin_b (by decide) c9
      replace H := H k_a2 h_k_a2 e_k_a2
      subst e_k_a2
      refine zW_gh 45 [some (.ref 75), some (.int (Int32.ofNat a0)), some (.int (zbi a1)), some (.int (Int32.ofNat k_a2)), some (.int a3), some (.int (m ((1068 * a0) + 2)))] [.long ((((m ((1068 * a0) + 2)) - (1 : Int32))).toInt64), .long (0 : Int64), .long ((a3).toInt64)] 7 (fun f => rfl) ?_
      refine zW_cl rfl rfl rfl rfl rfl (s141 ?_)
      change zW zm_171 48 [some (.ref 75), some (.int (Int32.ofNat a0)), some (.int (zbi a1)), some (.int (Int32.ofNat k_a2)), some (.int a3), some (.int (m ((1068 * a0) + 2)))] [.int (zbi (zin ((a3).toInt64) (0 : Int64) ((((m ((1068 * a0) + 2)) - (1 : Int32))).toInt64)))] p _ Q
      refine zW_bh (zcmp .eq (zbi (zin ((a3).toInt64) (0 : Int64) ((((m ((1068 * a0) + 2)) - (1 : Int32))).toInt64))) (0 : Int32)) 55 51 [some (.ref 75), some (.int (Int32.ofNat a0)), some (.int (zbi a1)), some (.int (Int32.ofNat k_a2)), some (.int a3), some (.int (m ((1068 * a0) + 2)))] [] 1 (fun f => rfl) (fun c => ?_) (fun c => ?_)
      · have c9 : (zin ((a3).toInt64) (0 : Int64) ((((m ((1068 * a0) + 2)) - (1 : Int32))).toInt64)) = false := ((Bool.not_eq_true' _).mp ((zcB_eq _).symm.trans c))
        replace H := H.1 c9
        refine zW_gh 56 [some (.ref 75), some (.int (Int32.ofNat a0)), some (.int (zbi a1)), some (.int (Int32.ofNat k_a2)), some (.int a3), some (.int (m ((1068 * a0) + 2)))] [.int (0 : Int32)] 1 (fun f => rfl) ?_
        exact zW_rh (some (.int (0 : Int32))) 1 (fun f => rfl) H
      · have c9 : (zin ((a3).toInt64) (0 : Int64) ((((m ((1068 * a0) + 2)) - (1 : Int32))).toInt64)) = true := ((Bool.not_eq_false' _).mp ((zcB_eq _).symm.trans c))
        replace H := H.2 c9
        obtain ⟨k_a3, h_k_a3, e_k_a3⟩ := zin_b (by decide) c9
        replace H := H k_a3 h_k_a3 e_k_a3
        subst e_k_a3
        refine zW_gh 56 [some (.ref 75), some (.int (Int32.ofNat a0)), some (.int (zbi a1)), some (.int (Int32.ofNat k_a2)), some (.int (Int32.ofNat k_a3)), some (.int (m ((1068 * a0) + 2)))] [.int (1 : Int32)] 2 (fun f => rfl) ?_
        exact zW_rh (some (.int (1 : Int32))) 1 (fun f => rfl) H
theorem s171 {K : zKt} {code rf rs pr pn : Int32} {bad : Bool} {J : zJt} {m pa pb pc vf vs : Nat → Int32} {B : zBt} {w : Nat → Int64} {p : Nat × Nat} {Q : zR → zH → Prop} {x a b : Int32} {n : Nat} {c : Bool} (hx : x = Int32.ofNat n) (hn : 1068 * n + 2 < 5340) (H : Q (.inl (some (.int (zbi (zareL m n c a b))))) (zh K (code, rf, rs, bad, pr, pn, J) (m, pa, pb, pc, vf, vs, B) w)) : zT zm_171 [.ref 75, .int x, .int (zbi c), .int a, .int b] p (zh K (code, rf, rs, bad, pr, pn, J) (m, pa, pb, pc, vf, vs, B) w) Q := by
  subst hx
  refine b171 ?_
  repeat' first | (refine ⟨?_, ?_⟩) | (intro _)
  all_goals first | omega | exact zQt (by simp_all [zareL]) H | exact zQf (by simp_all [zareL]) H
theorem b219 {K : zKt} {code rf rs pr pn : Int32} {bad : Bool} {J : zJt} {m pa pb pc vf vs : Nat → Int32} {B : zBt} {w : Nat → Int64} {p : Nat × Nat} {Q : zR → zH → Prop} {a0 a1 a2 : Nat} (H : (((1068 * a0) + a2) < 5340 ∧ (((1068 * a1) + a2) < 5340 ∧ ((¬ (m ((1068 * a0) + a2)) = (m ((1068 * a1) + a2)) → Q (.inl (some (.int (0 : Int32)))) (zh K (code, rf, rs, bad, pr, pn, J) (m, pa, pb, pc, vf, vs, B) w)) ∧ ((m ((1068 * a0) + a2)) = (m ((1068 * a1) + a2)) → Q (.inl (some (.int (1 : Int32)))) (zh K (code, rf, rs, bad, pr, pn, J) (m, pa, pb, pc, vf, vs, B) w)))))) : zT zm_219 [.ref 75, .int (Int32.ofNat a0), .int (Int32.ofNat a1), .int (Int32.ofNat a2)] p (zh K (code, rf, rs, bad, pr, pn, J) (m, pa, pb, pc, vf, vs, B) w) Q := by
  change zW zm_219 0 [some (.ref 75), some (.int (Int32.ofNat a0)), some (.int (Int32.ofNat a1)), some (.int (Int32.ofNat a2))] [] p _ Q
  refine zW_gh 11 [some (.ref 75), some (.int (Int32.ofNat a0)), some (.int (Int32.ofNat a1)), some (.int (Int32.ofNat a2))] [.int (((1068 : Int32) * (Int32.ofNat a0)) + (Int32.ofNat a2)), .ref 76] 7 (fun f => rfl) ?_
  obtain ⟨h1, H⟩ := H
  refine zW_iald rfl (by decide) rfl (by decide) (zN_a (zN_m rfl rfl) rfl) h1 ?_
  refine zW_gh 23 [some (.ref 75), some (.int (Int32.ofNat a0)), some (.int (Int32.ofNat a1)), some (.int (Int32.ofNat a2))] [.int (((1068 : Int32) * (Int32.ofNat a1)) + (Int32.ofNat a2)), .ref 76, .int (m ((1068 * a0) + a2))] 7 (fun f => rfl) ?_
  obtain ⟨h2, H⟩ := H
  refine zW_iald rfl (by decide) rfl (by decide) (zN_a (zN_m rfl rfl) rfl) h2 ?_
  refine zW_bh (zcmp .ne (m ((1068 * a0) + a2)) (m ((1068 * a1) + a2))) 31 27 [some (.ref 75), some (.int (Int32.ofNat a0)), some (.int (Int32.ofNat a1)), some (.int (Int32.ofNat a2))] [] 1 (fun f => rfl) (fun c => ?_) (fun c => ?_)
  · have c9 : ¬ (m ((1068 * a0) + a2)) = (m ((1068 * a1) + a2)) := (by simpa [zcmp] using c)
    replace H := H.1 c9
    refine zW_gh 32 [some (.ref 75), some (.int (Int32.ofNat a0)), some (.int (Int32.ofNat a1)), some (.int (Int32.ofNat a2))] [.int (0 : Int32)] 1 (fun f => rfl) ?_
    exact zW_rh (some (.int (0 : Int32))) 1 (fun f => rfl) H
  · have c9 : (m ((1068 * a0) + a2)) = (m ((1068 * a1) + a2)) := (by simpa [zcmp] using c)
    replace H := H.2 c9
    refine zW_gh 32 [some (.ref 75), some (.int (Int32.ofNat a0)), some (.int (Int32.ofNat a1)), some (.int (Int32.ofNat a2))] [.int (1 : Int32)] 2 (fun f => rfl) ?_
    exact zW_rh (some (.int (1 : Int32))) 1 (fun f => rfl) H
theorem s219 {K : zKt} {code rf rs pr pn : Int32} {bad : Bool} {J : zJt} {m pa pb pc vf vs : Nat → Int32} {B : zBt} {w : Nat → Int64} {p : Nat × Nat} {Q : zR → zH → Prop} {x y z : Int32} {n k q : Nat} (hx : x = Int32.ofNat n) (hy : y = Int32.ofNat k) (hz : z = Int32.ofNat q) (hn : 1068 * n + q < 5340) (hk : 1068 * k + q < 5340) (H : Q (.inl (some (.int (zbi (decide (m (1068 * n + q) = m (1068 * k + q))))))) (zh K (code, rf, rs, bad, pr, pn, J) (m, pa, pb, pc, vf, vs, B) w)) : zT zm_219 [.ref 75, .int x, .int y, .int z] p (zh K (code, rf, rs, bad, pr, pn, J) (m, pa, pb, pc, vf, vs, B) w) Q := by
  subst hx hy hz
  refine b219 ?_
  repeat' first | (refine ⟨?_, ?_⟩) | (intro _)
  all_goals first | omega | exact zQt (by simp_all []) H | exact zQf (by simp_all []) H
