/-! conditions, and the ring that a call goes to -/
theorem zcB_eq (b : Bool) : zcmp .eq (zbi b) 0 = !b := by cases b <;> rfl
theorem zcB_ne (b : Bool) : zcmp .ne (zbi b) 0 = b := by cases b <;> rfl
theorem lg_cmp_i (x y : Int64) : (lg_cmp x y).toInt = if y.toInt < x.toInt then 1 else if x.toInt = y.toInt then 0 else -1 := by
  unfold lg_cmp
  simp only [gt_iff_lt, Int64.lt_iff_toInt_lt, ← Int64.toInt_inj]
  repeat' split
  all_goals rfl
theorem zcL_lt (x y : Int64) : zcmp .lt (lg_cmp x y) 0 = decide (x < y) := by
  simp only [zcmp, decide_eq_decide, Int32.lt_iff_toInt_lt, Int64.lt_iff_toInt_lt, lg_cmp_i, Int32.toInt_zero]
  repeat' split
  all_goals omega
theorem zcL_ge (x y : Int64) : zcmp .ge (lg_cmp x y) 0 = decide (y ≤ x) := by
  simp only [zcmp, decide_eq_decide, Int32.le_iff_toInt_le, Int64.le_iff_toInt_le, lg_cmp_i, Int32.toInt_zero]
  repeat' split
  all_goals omega
theorem zcL_gt (x y : Int64) : zcmp .gt (lg_cmp x y) 0 = decide (y < x) := by
  simp only [zcmp, decide_eq_decide, Int32.lt_iff_toInt_lt, Int64.lt_iff_toInt_lt, lg_cmp_i, Int32.toInt_zero]
  repeat' split
  all_goals omega
theorem zcL_le (x y : Int64) : zcmp .le (lg_cmp x y) 0 = decide (x ≤ y) := by
  simp only [zcmp, decide_eq_decide, Int32.le_iff_toInt_le, Int64.le_iff_toInt_le, lg_cmp_i, Int32.toInt_zero]
  repeat' split
  all_goals omega
theorem zcL_eq (x y : Int64) : zcmp .eq (lg_cmp x y) 0 = decide (x = y) := by
  simp only [zcmp, decide_eq_decide, ← Int32.toInt_inj, ← Int64.toInt_inj, lg_cmp_i, Int32.toInt_zero]
  repeat' split
  all_goals omega
theorem zcL_ne (x y : Int64) : zcmp .ne (lg_cmp x y) 0 = !decide (x = y) := by
  have h := zcL_eq x y
  simp only [zcmp] at h ⊢
  rw [h]
section ZC
variable {x y : Int32} {a b : Nat}
theorem zN_i (ha : a < 2147483648) : (Int32.ofNat a).toInt = (a : Int) := zN_lt ha (Nat.le_refl _)
theorem zcN_lt (hx : x = Int32.ofNat a) (hy : y = Int32.ofNat b) (ha : a < 2147483648) (hb : b < 2147483648) : zcmp .lt x y = decide (a < b) := by
  subst hx hy
  simp only [zcmp, decide_eq_decide, Int32.lt_iff_toInt_lt, zN_i ha, zN_i hb]
  omega
theorem zcN_ge (hx : x = Int32.ofNat a) (hy : y = Int32.ofNat b) (ha : a < 2147483648) (hb : b < 2147483648) : zcmp .ge x y = decide (b ≤ a) := by
  subst hx hy
  simp only [zcmp, decide_eq_decide, Int32.le_iff_toInt_le, zN_i ha, zN_i hb]
  omega
theorem zcN_gt (hx : x = Int32.ofNat a) (hy : y = Int32.ofNat b) (ha : a < 2147483648) (hb : b < 2147483648) : zcmp .gt x y = decide (b < a) := by
  subst hx hy
  simp only [zcmp, decide_eq_decide, Int32.lt_iff_toInt_lt, zN_i ha, zN_i hb]
  omega
theorem zcN_le (hx : x = Int32.ofNat a) (hy : y = Int32.ofNat b) (ha : a < 2147483648) (hb : b < 2147483648) : zcmp .le x y = decide (a ≤ b) := by
  subst hx hy
  simp only [zcmp, decide_eq_decide, Int32.le_iff_toInt_le, zN_i ha, zN_i hb]
  omega
theorem zcN_eq (hx : x = Int32.ofNat a) (hy : y = Int32.ofNat b) (ha : a < 2147483648) (hb : b < 2147483648) : zcmp .eq x y = decide (a = b) := by
  subst hx hy
  simp only [zcmp, decide_eq_decide, ← Int32.toInt_inj, zN_i ha, zN_i hb]
  omega
theorem zcN_ne (hx : x = Int32.ofNat a) (hy : y = Int32.ofNat b) (ha : a < 2147483648) (hb : b < 2147483648) : zcmp .ne x y = !decide (a = b) := by
  have h := zcN_eq hx hy ha hb
  simp only [zcmp] at h ⊢
  rw [h]
theorem zN_nz (hy : y = Int32.ofNat b) (h0 : 0 < b) (hb : b < 2147483648) : y ≠ 0 := by
  subst hy
  intro h
  have := congrArg Int32.toInt h
  rw [zN_i hb, Int32.toInt_zero] at this
  omega
theorem zN_d (hx : x = Int32.ofNat a) (hy : y = Int32.ofNat b) (ha : a < 2147483648) (hb : b < 2147483648) : x / y = Int32.ofNat (a / b) := by
  subst hx hy
  have hd : a / b < 2147483648 := Nat.lt_of_le_of_lt (Nat.div_le_self a b) ha
  rw [← Int32.toInt_inj, Int32.toInt_div, zN_i ha, zN_i hb, zN_i hd, Int.tdiv_eq_ediv_of_nonneg (by omega), ← Int.natCast_ediv]
  generalize a / b = q at hd ⊢
  rw [Int.bmod_def]
  split <;> omega
theorem zN_r (hx : x = Int32.ofNat a) (hy : y = Int32.ofNat b) (ha : a < 2147483648) (hb : b < 2147483648) : x - x / y * y = Int32.ofNat (a % b) := by
  rw [zN_d hx hy ha hb, zN_m rfl hy, hx, zN_sb rfl rfl (Nat.div_mul_le_self a b)]
  congr 1
  have := Nat.div_add_mod a b
  rw [Nat.mul_comm] at this
  omega
end ZC
def zrm (r : Nat) (M1 M0 M4 : zM) : zM := match r with
  | 0 => M1
  | 1 => M0
  | 2 => M4
  | 3 => M4
  | 5 => M4
  | 7 => M4
  | _ => M1
def zrno (r : Nat) : Nat := match r with
  | 0 => 0
  | 1 => 1
  | 2 => 2
  | 3 => 3
  | 5 => 5
  | 7 => 7
  | _ => 0
section ZD
variable {M M0 M1 M4 : zM} {pc : Nat} {L : zL} {st t : List Value} {p : Nat × Nat} {h : zH} {Q : zR → zH → Prop} {K : zKt} {I : zIt} {A : zAt} {w : Nat → Int64}
theorem zra_c (r : Nat) : ∃ ci fs, zra r < 86 ∧ zh K I A w (zra r) = .inr (ci, fs) ∧ fs[0]? = some (.int (Int32.ofNat (zrno r))) ∧ ((ci = 1 ∧ ∀ M1 M0 M4, zrm r M1 M0 M4 = M1) ∨ (ci = 0 ∧ ∀ M1 M0 M4, zrm r M1 M0 M4 = M0) ∨ (ci = 4 ∧ ∀ M1 M0 M4, zrm r M1 M0 M4 = M4)) := by
  unfold zra zrno zrm
  split
  · exact ⟨_, _, by decide, rfl, rfl, Or.inl ⟨rfl, fun _ _ _ => rfl⟩⟩
  · exact ⟨_, _, by decide, rfl, rfl, Or.inr (Or.inl ⟨rfl, fun _ _ _ => rfl⟩)⟩
  · exact ⟨_, _, by decide, rfl, rfl, Or.inr (Or.inr ⟨rfl, fun _ _ _ => rfl⟩)⟩
  · exact ⟨_, _, by decide, rfl, rfl, Or.inr (Or.inr ⟨rfl, fun _ _ _ => rfl⟩)⟩
  · exact ⟨_, _, by decide, rfl, rfl, Or.inr (Or.inr ⟨rfl, fun _ _ _ => rfl⟩)⟩
  · exact ⟨_, _, by decide, rfl, rfl, Or.inr (Or.inr ⟨rfl, fun _ _ _ => rfl⟩)⟩
  · rename_i n1 n2 n3 n4 n5 n6
    refine ⟨_, _, by decide, rfl, ?_, Or.inl ⟨rfl, fun _ _ _ => ?_⟩⟩
    · split <;> first | rfl | (exfalso; first | exact n1 rfl | exact n2 rfl | exact n3 rfl | exact n4 rfl | exact n5 rfl | exact n6 rfl)
    · split <;> first | rfl | (exfalso; first | exact n1 rfl | exact n2 rfl | exact n3 rfl | exact n4 rfl | exact n5 rfl | exact n6 rfl)
theorem zW_gr {r idx : Nat} {s1 s0 s4 : Nat × Bool} (hi : zlk M.2.2.2.2.2.2.1 pc = some (.getfield idx)) (q1 : zq2 zFL M.1 idx 1 = some (0, s1)) (q0 : zq2 zFL M.1 idx 0 = some (0, s0)) (q4 : zq2 zFL M.1 idx 4 = some (0, s4))
    (wk : zW M (pc + 3) L (.int (Int32.ofNat (zrno r)) :: t) p (zh K I A w) Q) : zW M pc L (.ref (zra r) :: t) p (zh K I A w) Q := by
  obtain ⟨ci, fs, ha, hc, hv, h3⟩ := zra_c (K := K) (I := I) (A := A) (w := w) r
  rcases h3 with ⟨rfl, -⟩ | ⟨rfl, -⟩ | ⟨rfl, -⟩
  · exact zW_gf hi ha hc q1 hv wk
  · exact zW_gf hi ha hc q0 hv wk
  · exact zW_gf hi ha hc q4 hv wk
theorem zW_cr {r idx n m1 m0 m4 : Nat} {as : List Value} {s1 s0 s4 : Nat × String × Nat × Nat × Nat × Nat} (hi : zlk M.2.2.2.2.2.2.1 pc = some (.invokevirtual idx)) (hn : zq1 zVN M.1 idx = some n) (hp : zpop n st [] = some (as, .ref (zra r) :: t))
    (q1 : zq2 zVV M.1 idx 1 = some (m1, n, s1)) (q0 : zq2 zVV M.1 idx 0 = some (m0, n, s0)) (q4 : zq2 zVV M.1 idx 4 = some (m4, n, s4)) (e1 : zpr m1 = some M1) (e0 : zpr m0 = some M0) (e4 : zpr m4 = some M4)
    (b1 : (Nat.blt M1.2.1 M.2.1 && Nat.ble ((t.map fun v => v.category).sum) 8 && Nat.ble (zslt (.ref (zra r) :: as)).length M1.2.2.2.2.1) = true) (b0 : (Nat.blt M0.2.1 M.2.1 && Nat.ble ((t.map fun v => v.category).sum) 8 && Nat.ble (zslt (.ref (zra r) :: as)).length M0.2.2.2.2.1) = true)
    (b4 : (Nat.blt M4.2.1 M.2.1 && Nat.ble ((t.map fun v => v.category).sum) 8 && Nat.ble (zslt (.ref (zra r) :: as)).length M4.2.2.2.2.1) = true) (hh : M.2.2.2.2.2.2.2 = [])
    (wk : zT (zrm r M1 M0 M4) (.ref (zra r) :: as) p (zh K I A w) (zK M (pc + 3) L t p Q)) : zW M pc L st p (zh K I A w) Q := by
  obtain ⟨ci, fs, ha, hc, hv, h3⟩ := zra_c (K := K) (I := I) (A := A) (w := w) r
  rcases h3 with ⟨rfl, h3⟩ | ⟨rfl, h3⟩ | ⟨rfl, h3⟩
  · rw [h3] at wk; exact zW_cv hi hn hp ha hc q1 e1 b1 hh wk
  · rw [h3] at wk; exact zW_cv hi hn hp ha hc q0 e0 b0 hh wk
  · rw [h3] at wk; exact zW_cv hi hn hp ha hc q4 e4 b4 hh wk
theorem zW_cr1 {r idx n m1 : Nat} {as : List Value} {s1 s0 s4 : Nat × String × Nat × Nat × Nat × Nat} (hi : zlk M.2.2.2.2.2.2.1 pc = some (.invokevirtual idx)) (hn : zq1 zVN M.1 idx = some n) (hp : zpop n st [] = some (as, .ref (zra r) :: t))
    (q1 : zq2 zVV M.1 idx 1 = some (m1, n, s1)) (q0 : zq2 zVV M.1 idx 0 = some (m1, n, s0)) (q4 : zq2 zVV M.1 idx 4 = some (m1, n, s4)) (e1 : zpr m1 = some M1)
    (b1 : (Nat.blt M1.2.1 M.2.1 && Nat.ble ((t.map fun v => v.category).sum) 8 && Nat.ble (zslt (.ref (zra r) :: as)).length M1.2.2.2.2.1) = true) (hh : M.2.2.2.2.2.2.2 = [])
    (wk : zT M1 (.ref (zra r) :: as) p (zh K I A w) (zK M (pc + 3) L t p Q)) : zW M pc L st p (zh K I A w) Q := by
  obtain ⟨ci, fs, ha, hc, hv, h3⟩ := zra_c (K := K) (I := I) (A := A) (w := w) r
  rcases h3 with ⟨rfl, h3⟩ | ⟨rfl, h3⟩ | ⟨rfl, h3⟩
  · exact zW_cv hi hn hp ha hc q1 e1 b1 hh wk
  · exact zW_cv hi hn hp ha hc q0 e1 b1 hh wk
  · exact zW_cv hi hn hp ha hc q4 e1 b1 hh wk
theorem zW_al {a ty n : Nat} {X} (hi : zlk M.2.2.2.2.2.2.1 pc = some .arraylength) (ha : a < 86) (hc : h a = .inl (ty, n, X)) (ht : Nat.ble ty 3 = true) (wk : zW M (pc + 1) L (.int (Int32.ofNat n) :: t) p h Q) : zW M pc L (.ref a :: t) p h Q := by
  refine zW_s hi ?_ wk
  have e : zrd none M.1 .arraylength (.ref a :: t) (86, p) h = some (1, .int (Int32.ofNat n) :: t) := by
    simp only [zrd, zbltT ha, hc, ht, cond_true]
  simp only [zstep, zstk, zlcl, zbr, e]
end ZD
