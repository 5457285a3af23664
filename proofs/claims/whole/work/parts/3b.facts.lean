/-! facts of the rings: sizes, normalizers, remainders -/
theorem zE_0 {a : zE2} : a = (0, 0) ↔ a.1.toInt = 0 ∧ a.2.toInt = 0 := by
  constructor
  · intro h; subst h; exact ⟨rfl, rfl⟩
  · rintro ⟨h1, h2⟩
    exact Prod.ext (by show a.1 = 0; rw [← Int32.toInt_inj, h1]; rfl) (by show a.2 = 0; rw [← Int32.toInt_inj, h2]; rfl)
theorem zsz_0 {a : zE2} (h : zok 0 a) : (zsz 0 a).toInt = (a.1.toInt.natAbs : Int) := by
  obtain ⟨h1, h2, h3⟩ := h
  have ea : a.1.toInt64.toInt = a.1.toInt := Int32.toInt_toInt64 a.1
  show (bif decide (0 ≤ a.1) then a.1.toInt64 else -a.1.toInt64).toInt = _
  by_cases hz : 0 ≤ a.1
  · rw [decide_eq_true hz, cond_true, ea]
    rw [Int32.le_iff_toInt_le, Int32.toInt_zero] at hz
    omega
  · rw [decide_eq_false hz, cond_false, zLn (by omega), ea]
    rw [Int32.le_iff_toInt_le, Int32.toInt_zero] at hz
    omega
theorem zsz_1 {a : zE2} (h : zok 1 a) : (zsz 1 a).toInt = zq1n a ∧ zq1n a ≤ 1800000000 := by
  obtain ⟨h1, h2, h3, h4⟩ := h
  have e : ∀ x : Int32, x.toInt64.toInt = x.toInt := Int32.toInt_toInt64
  have m1 := zmulb h1 h2 h1 h2
  have m2 := zmulb h3 h4 h3 h4
  have p1 : (a.1.toInt64 * a.1.toInt64).toInt = a.1.toInt * a.1.toInt := by rw [zLm (by rw [e]; omega) (by rw [e]; omega), e]
  have p2 : (a.2.toInt64 * a.2.toInt64).toInt = a.2.toInt * a.2.toInt := by rw [zLm (by rw [e]; omega) (by rw [e]; omega), e]
  refine ⟨?_, by unfold zq1n; omega⟩
  show (a.1.toInt64 * a.1.toInt64 + a.2.toInt64 * a.2.toInt64).toInt = _
  rw [zLa (by rw [p1, p2]; omega) (by rw [p1, p2]; omega), p1, p2]; rfl
theorem zszP_i (q v : Nat) : (zszP q v).toInt = (zdn (zcf q v) 8 : Int) := by
  have h : ∀ n, n < 9 → ((1 : Int64) + (zpre n).toInt64).toInt = (n : Int) := by decide
  exact h _ (by have := zdn_le (zcf q v) 8; omega)
theorem zrg_c {r : Nat} (hr : zrg r) : r = 0 ∨ r = 1 ∨ zprm r := by unfold zrg at hr; unfold zprm; omega
theorem zsz_i {r : Nat} (hr : zrg r) {a : zE2} (ha : zok r a) : 0 ≤ (zsz r a).toInt ∧ ((zsz r a).toInt = 0 ↔ a = (0, 0)) := by
  rcases zrg_c hr with rfl | rfl | hq
  · rw [zsz_0 ha, zE_0]
    have h3 := ha.2.2
    have e : a.2.toInt = 0 := by rw [h3]; rfl
    omega
  · rw [(zsz_1 ha).1, zE_0]
    have s1 := zsq a.1.toInt
    have s2 := zsq a.2.toInt
    unfold zq1n
    constructor
    · omega
    · constructor
      · intro h; omega
      · rintro ⟨e1, e2⟩; rw [e1, e2]; rfl
  · have hq7 := zprm_lt hq
    obtain ⟨v, hv, rfl⟩ := (zok_p hq).mp ha
    have hpw := zpw_lt hq
    rw [zsz_p hq hv, zszP_i]
    refine ⟨by omega, fun h => ?_, fun h => ?_⟩
    · by_cases h0 : v = 0
      · subst h0; rfl
      · have := zcf_nz (p := r) (by omega) hv h0; omega
    · have h0 : v = 0 := (zN_0 (by omega)).mp (congrArg Prod.fst h)
      subst h0
      have : zdn (zcf r 0) 8 = 0 := by
        have : zdn (zcf r 0) 8 = zdn (fun _ => 0) 8 := zdn_congr (fun k _ => zcf_0 r k)
        rw [this]; rfl
      omega
theorem zun_nrm {r : Nat} (hr : zrg r) {a : zE2} (ha : zok r a) : zun r (znrm r a) := by
  rcases zrg_c hr with rfl | rfl | hq
  · refine ⟨?_, rfl⟩
    show (bif decide (0 ≤ a.1) then (1 : Int32) else -1) = 1 ∨ (bif decide (0 ≤ a.1) then (1 : Int32) else -1) = -1
    cases decide (0 ≤ a.1)
    · right; rfl
    · left; rfl
  · show zun 1 (if a.1 ≤ 0 ∧ 0 < a.2 then (0, -1) else if a.1 < 0 then (-1, 0) else if a.2 < 0 then (0, 1) else (1, 0))
    split
    · exact Or.inl ⟨rfl, Or.inr rfl⟩
    · split
      · exact Or.inr ⟨rfl, Or.inr rfl⟩
      · split
        · exact Or.inl ⟨rfl, Or.inl rfl⟩
        · exact Or.inr ⟨rfl, Or.inl rfl⟩
  · have hq7 := zprm_lt hq
    obtain ⟨v, hv, rfl⟩ := (zok_p hq).mp ha
    rw [znrm_p hq hv]
    split
    · exact (zun_p hq).mpr ⟨1, by omega, by omega, rfl⟩
    · rename_i h0
      have h1 := zdn_at (F := zcf r v) (n := 8) (by omega)
      have h2 := zivP_ok hq (show 0 < zcf r v (zdn (zcf r v) 8 - 1) by omega) (zcf_lt (by omega) v _)
      exact (zun_p hq).mpr ⟨_, h2.1, h2.2.1, rfl⟩
theorem zplus_some0 {a f b : zE2} {v : Int} (hv : (a.1.toInt64 + f.1.toInt64 * b.1.toInt64).toInt = v) (h1 : -1000000000 ≤ v) (h2 : v ≤ 1000000000) : zplus 0 a f b = some (Int32.ofInt v, 0) := by
  have e3 : zin (a.1.toInt64 + f.1.toInt64 * b.1.toInt64) (-1000000000) 1000000000 = true := by
    rw [zin_iff, hv, show Int64.toInt (-1000000000) = -1000000000 from rfl, show Int64.toInt 1000000000 = 1000000000 from rfl]; omega
  show (bif zin (a.1.toInt64 + f.1.toInt64 * b.1.toInt64) (-1000000000) 1000000000 then some ((a.1.toInt64 + f.1.toInt64 * b.1.toInt64).toInt32, (0 : Int32)) else none) = _
  rw [e3, zL_I hv (by omega) (by omega)]; rfl
/-- what the integers' sum reckons -/
theorem zpl0_i {a f b : zE2} (ha : zok 0 a) (hf : zok 0 f) (hb : zok 0 b) : (a.1.toInt64 + f.1.toInt64 * b.1.toInt64).toInt = a.1.toInt + f.1.toInt * b.1.toInt := by
  obtain ⟨a1, a2, _⟩ := ha
  obtain ⟨f1, f2, _⟩ := hf
  obtain ⟨b1, b2, _⟩ := hb
  have e : ∀ x : Int32, x.toInt64.toInt = x.toInt := Int32.toInt_toInt64
  have m1 := zmulb f1 f2 b1 b2
  have p1 : (f.1.toInt64 * b.1.toInt64).toInt = f.1.toInt * b.1.toInt := by rw [zLm (by rw [e, e]; omega) (by rw [e, e]; omega), e, e]
  rw [zLa (by rw [p1, e]; omega) (by rw [p1, e]; omega), p1, e]
theorem zpl1_i {a f b : zE2} (ha : zok 1 a) (hf : zok 1 f) (hb : zok 1 b) : (a.1.toInt64 + f.1.toInt64 * b.1.toInt64 - f.2.toInt64 * b.2.toInt64).toInt = a.1.toInt + f.1.toInt * b.1.toInt - f.2.toInt * b.2.toInt ∧ (a.2.toInt64 + f.1.toInt64 * b.2.toInt64 + f.2.toInt64 * b.1.toInt64).toInt = a.2.toInt + f.1.toInt * b.2.toInt + f.2.toInt * b.1.toInt := by
  obtain ⟨a1, a2, a3, a4⟩ := ha
  obtain ⟨f1, f2, f3, f4⟩ := hf
  obtain ⟨b1, b2, b3, b4⟩ := hb
  have e : ∀ x : Int32, x.toInt64.toInt = x.toInt := Int32.toInt_toInt64
  have m : ∀ {x y : Int32}, -30000 ≤ x.toInt → x.toInt ≤ 30000 → -30000 ≤ y.toInt → y.toInt ≤ 30000 → (x.toInt64 * y.toInt64).toInt = x.toInt * y.toInt ∧ -900000000 ≤ x.toInt * y.toInt ∧ x.toInt * y.toInt ≤ 900000000 := by
    intro x y p1 p2 p3 p4
    have := zmulb p1 p2 p3 p4
    exact ⟨by rw [zLm (by rw [e, e]; omega) (by rw [e, e]; omega), e, e], by omega, by omega⟩
  obtain ⟨p, p', p''⟩ := m f1 f2 b1 b2
  obtain ⟨q, q', q''⟩ := m f3 f4 b3 b4
  obtain ⟨u, u', u''⟩ := m f1 f2 b3 b4
  obtain ⟨v, v', v''⟩ := m f3 f4 b1 b2
  have x1 : (a.1.toInt64 + f.1.toInt64 * b.1.toInt64).toInt = a.1.toInt + f.1.toInt * b.1.toInt := by rw [zLa (by rw [p, e]; omega) (by rw [p, e]; omega), p, e]
  have y1 : (a.2.toInt64 + f.1.toInt64 * b.2.toInt64).toInt = a.2.toInt + f.1.toInt * b.2.toInt := by rw [zLa (by rw [u, e]; omega) (by rw [u, e]; omega), u, e]
  exact ⟨by rw [zLs (by rw [x1, q]; omega) (by rw [x1, q]; omega), x1, q], by rw [zLa (by rw [y1, v]; omega) (by rw [y1, v]; omega), y1, v]⟩
theorem zplus_some1 {a f b : zE2} {x y : Int} (hx : (a.1.toInt64 + f.1.toInt64 * b.1.toInt64 - f.2.toInt64 * b.2.toInt64).toInt = x) (hy : (a.2.toInt64 + f.1.toInt64 * b.2.toInt64 + f.2.toInt64 * b.1.toInt64).toInt = y) (h1 : -30000 ≤ x) (h2 : x ≤ 30000) (h3 : -30000 ≤ y) (h4 : y ≤ 30000) : zplus 1 a f b = some (Int32.ofInt x, Int32.ofInt y) := by
  have e3 : zin (a.1.toInt64 + f.1.toInt64 * b.1.toInt64 - f.2.toInt64 * b.2.toInt64) (-30000) 30000 = true := by
    rw [zin_iff, hx, show Int64.toInt (-30000) = -30000 from rfl, show Int64.toInt 30000 = 30000 from rfl]; omega
  have e4 : zin (a.2.toInt64 + f.1.toInt64 * b.2.toInt64 + f.2.toInt64 * b.1.toInt64) (-30000) 30000 = true := by
    rw [zin_iff, hy, show Int64.toInt (-30000) = -30000 from rfl, show Int64.toInt 30000 = 30000 from rfl]; omega
  show (bif zin (a.1.toInt64 + f.1.toInt64 * b.1.toInt64 - f.2.toInt64 * b.2.toInt64) (-30000) 30000 && zin (a.2.toInt64 + f.1.toInt64 * b.2.toInt64 + f.2.toInt64 * b.1.toInt64) (-30000) 30000 then
      some ((a.1.toInt64 + f.1.toInt64 * b.1.toInt64 - f.2.toInt64 * b.2.toInt64).toInt32, (a.2.toInt64 + f.1.toInt64 * b.2.toInt64 + f.2.toInt64 * b.1.toInt64).toInt32) else none) = _
  rw [e3, e4, zL_I hx (by omega) (by omega), zL_I hy (by omega) (by omega)]; rfl
theorem zrem_0 {a b : zE2} (ha : zok 0 a) (hb : zok 0 b) (hb0 : b ≠ (0, 0)) : ∃ v, zrem 0 a b = some v := by
  have hq := zok_quo (show zrg 0 from Or.inl rfl) ha hb hb0
  have hn := zok_neg (show zrg 0 from Or.inl rfl) hq
  have e := zpl0_i ha hn hb
  have b2 : b.2.toInt = 0 := by rw [hb.2.2]; rfl
  have b0 : b.1.toInt ≠ 0 := fun h => hb0 (zE_0.mpr ⟨h, b2⟩)
  have qb := zq0_b ha.1 ha.2.1 b0
  have eq : (zquo 0 a b).1.toInt = zq0 a.1.toInt b.1.toInt := zI_v (by omega) (by omega)
  have en : (zneg 0 (zquo 0 a b)).1.toInt = -zq0 a.1.toInt b.1.toInt := by
    show (-(zquo 0 a b).1).toInt = _
    rw [zIn (by omega), eq]
  rw [en] at e
  have key : 0 ≤ a.1.toInt + -zq0 a.1.toInt b.1.toInt * b.1.toInt ∧ a.1.toInt + -zq0 a.1.toInt b.1.toInt * b.1.toInt < (b.1.toInt.natAbs : Int) := by
    unfold zq0
    split
    · have h1 := Int.mul_ediv_add_emod a.1.toInt b.1.toInt
      have h2 := Int.emod_nonneg a.1.toInt b0
      have h3 := Int.emod_lt_of_pos a.1.toInt (show 0 < b.1.toInt by omega)
      rw [Int.neg_mul, Int.mul_comm (a.1.toInt / b.1.toInt)]
      omega
    · have h1 := Int.mul_ediv_add_emod a.1.toInt (-b.1.toInt)
      have h2 := Int.emod_nonneg a.1.toInt (show -b.1.toInt ≠ 0 by omega)
      have h3 := Int.emod_lt_of_pos a.1.toInt (show 0 < -b.1.toInt by omega)
      rw [Int.neg_mul] at h1
      rw [Int.neg_neg, Int.mul_comm (a.1.toInt / -b.1.toInt)]
      omega
  have h1 := hb.1
  have h2 := hb.2.1
  exact ⟨_, zplus_some0 e (by omega) (by omega)⟩
/-- half of the divisor's norm -/
theorem zround {x n : Int} (hn : 0 < n) : -n ≤ 2 * (x - (2 * x + n) / (2 * n) * n) ∧ 2 * (x - (2 * x + n) / (2 * n) * n) ≤ n := by
  have h1 := Int.mul_ediv_add_emod (2 * x + n) (2 * n)
  have h2 := Int.emod_nonneg (2 * x + n) (show 2 * n ≠ 0 by omega)
  have h3 := Int.emod_lt_of_pos (2 * x + n) (show 0 < 2 * n by omega)
  have e : (2 * x + n) / (2 * n) * n * 2 = 2 * n * ((2 * x + n) / (2 * n)) := by
    rw [Int.mul_assoc, Int.mul_comm n 2, Int.mul_comm]
  omega
theorem zsqle {x n : Int} (h1 : -n ≤ x) (h2 : x ≤ n) : x * x ≤ n * n := (zmulb h1 h2 h1 h2).2
theorem zsqlt {x : Int} (k : Int) (hk : 0 ≤ k) (h : x * x ≤ k * k) : -k ≤ x ∧ x ≤ k := by
  have e1 : x * x = ((x.natAbs * x.natAbs : Nat) : Int) := by rw [Int.natCast_mul, Int.natAbs_mul_self' x]
  have e2 : k * k = ((k.natAbs * k.natAbs : Nat) : Int) := by rw [Int.natCast_mul, Int.natAbs_mul_self' k]
  rw [e1, e2] at h
  have h3 : x.natAbs * x.natAbs ≤ k.natAbs * k.natAbs := by omega
  have h4 : x.natAbs ≤ k.natAbs := Nat.mul_self_le_mul_self_iff.mp h3
  omega
theorem zrem_1 {a b : zE2} (ha : zok 1 a) (hb : zok 1 b) (hb0 : b ≠ (0, 0)) : ∃ v, zrem 1 a b = some v := by
  have hr : zrg 1 := Or.inr (Or.inl rfl)
  have hq := zok_quo hr ha hb hb0
  have hn := zok_neg hr hq
  obtain ⟨e1, e2⟩ := zpl1_i ha hn hb
  have hN := zq1n_pos (r := 1) hb0
  have hNb := (zsz_1 hb).2
  obtain ⟨q1, q2, q3, q4⟩ := hq
  have q1b := zq1_b ha.1 ha.2.1 ha.2.2.1 ha.2.2.2 (b1 := b.1.toInt) (b2 := b.2.toInt) (n := zq1n b) rfl hN
  have q2b := zq1_b (a1 := a.2.toInt) (a2 := -a.1.toInt) (b1 := b.1.toInt) (b2 := b.2.toInt) ha.2.2.1 ha.2.2.2 (by have := ha.2.1; omega) (by have := ha.1; omega) (n := zq1n b) rfl hN
  rw [Int.neg_mul, ← Int.sub_eq_add_neg] at q2b
  have ex : (zquo 1 a b).1.toInt = zq1x a b := zI_v (by unfold zq1x; omega) (by unfold zq1x; omega)
  have ey : (zquo 1 a b).2.toInt = zq1y a b := zI_v (by unfold zq1y; omega) (by unfold zq1y; omega)
  have nx : (zneg 1 (zquo 1 a b)).1.toInt = -zq1x a b := by
    show (-(zquo 1 a b).1).toInt = _
    rw [zIn (by omega), ex]
  have ny : (zneg 1 (zquo 1 a b)).2.toInt = -zq1y a b := by
    show (-(zquo 1 a b).2).toInt = _
    rw [zIn (by omega), ey]
  rw [nx, ny] at e1
  rw [nx, ny] at e2
  have rx := zround (x := a.1.toInt * b.1.toInt + a.2.toInt * b.2.toInt) hN
  have ry := zround (x := a.2.toInt * b.1.toInt - a.1.toInt * b.2.toInt) hN
  have gx : (2 * (a.1.toInt * b.1.toInt + a.2.toInt * b.2.toInt) + zq1n b) / (2 * zq1n b) = zq1x a b := rfl
  have gy : (2 * (a.2.toInt * b.1.toInt - a.1.toInt * b.2.toInt) + zq1n b) / (2 * zq1n b) = zq1y a b := rfl
  rw [gx] at rx
  rw [gy] at ry
  generalize zq1x a b = X at *
  generalize zq1y a b = Y at *
  have hnn : zq1n b = b.1.toInt * b.1.toInt + b.2.toInt * b.2.toInt := rfl
  generalize zq1n b = n at *
  generalize a.1.toInt = a1 at *
  generalize a.2.toInt = a2 at *
  generalize b.1.toInt = b1 at *
  generalize b.2.toInt = b2 at *
  -- the remainder times the conjugate
  have i1 : (a1 + -X * b1 - -Y * b2) * b1 + (a2 + -X * b2 + -Y * b1) * b2 = a1 * b1 + a2 * b2 - X * n := by
    rw [hnn]; simp only [Int.add_mul, Int.sub_mul, Int.mul_add, Int.neg_mul, Int.mul_assoc, Int.mul_comm b2 b1]; omega
  have i2 : (a2 + -X * b2 + -Y * b1) * b1 - (a1 + -X * b1 - -Y * b2) * b2 = a2 * b1 - a1 * b2 - Y * n := by
    rw [hnn]; simp only [Int.add_mul, Int.sub_mul, Int.mul_add, Int.neg_mul, Int.mul_assoc, Int.mul_comm b2 b1]; omega
  generalize a1 + -X * b1 - -Y * b2 = u at *
  generalize a2 + -X * b2 + -Y * b1 = v at *
  generalize a1 * b1 + a2 * b2 - X * n = S at *
  generalize a2 * b1 - a1 * b2 - Y * n = T at *
  have k1 : S * S + T * T = (u * u + v * v) * n := by
    rw [← i1, ← i2, hnn]
    simp only [Int.add_mul, Int.sub_mul, Int.mul_add, Int.mul_sub]
    have c1 : u * b1 * (v * b2) = u * b2 * (v * b1) := by simp only [Int.mul_assoc, Int.mul_left_comm, Int.mul_comm]
    have c2 : v * b2 * (u * b1) = v * b1 * (u * b2) := by simp only [Int.mul_assoc, Int.mul_left_comm, Int.mul_comm]
    have d1 : u * b1 * (u * b1) = u * u * (b1 * b1) := by simp only [Int.mul_assoc, Int.mul_left_comm, Int.mul_comm]
    have d2 : v * b2 * (v * b2) = v * v * (b2 * b2) := by simp only [Int.mul_assoc, Int.mul_left_comm, Int.mul_comm]
    have d3 : v * b1 * (v * b1) = v * v * (b1 * b1) := by simp only [Int.mul_assoc, Int.mul_left_comm, Int.mul_comm]
    have d4 : u * b2 * (u * b2) = u * u * (b2 * b2) := by simp only [Int.mul_assoc, Int.mul_left_comm, Int.mul_comm]
    rw [c1, c2, d1, d2, d3, d4]; omega
  have s1 := zsqle rx.1 rx.2
  have s2 := zsqle ry.1 ry.2
  have t1 : 2 * S * (2 * S) = 4 * (S * S) := by rw [Int.mul_assoc, Int.mul_left_comm S 2 S]; omega
  have t2 : 2 * T * (2 * T) = 4 * (T * T) := by rw [Int.mul_assoc, Int.mul_left_comm T 2 T]; omega
  rw [t1] at s1
  rw [t2] at s2
  have t3 : (2 * (u * u + v * v)) * n ≤ n * n := by rw [Int.mul_assoc, ← k1]; omega
  have t4 : 2 * (u * u + v * v) ≤ n := Int.le_of_mul_le_mul_right t3 hN
  have p1 := zsq u
  have p2 := zsq v
  have w1 := zsqlt (x := u) 30000 (by decide) (by omega)
  have w2 := zsqlt (x := v) 30000 (by decide) (by omega)
  exact ⟨_, zplus_some1 e1 e2 w1.1 w1.2 w2.1 w2.2⟩
theorem zrem_p {q a b : Nat} (hq : zprm q) (hb : b < q ^ 8) (hb0 : b ≠ 0) : ∃ v, zplP q a (zngP q (zqP q a b)) b = some v := by
  have hq7 := zprm_lt hq
  have hD := zcf_nz (p := q) (by omega) hb hb0
  have hD8 := zdn_le (zcf q b) 8
  refine ⟨zho q (zcC q a (zngP q (zqP q a b)) b) 8, ?_⟩
  unfold zplP
  rw [if_neg]
  intro h8
  have hat := zdn_at (F := zcC q a (zngP q (zqP q a b)) b) (n := 16) (by omega)
  have hle := zdn_le (zcC q a (zngP q (zqP q a b)) b) 16
  obtain ⟨k, hk⟩ : ∃ k, zdn (zcC q a (zngP q (zqP q a b)) b) 16 = k + 1 := ⟨zdn (zcC q a (zngP q (zqP q a b)) b) 16 - 1, by omega⟩
  rw [hk, Nat.add_sub_cancel] at hat
  apply hat
  · unfold zcC
    rw [if_neg (by omega), zcs_zero (fun i hi h1 h2 => ?_)]
    · simp
    · by_cases hd : zdn (zcf q b) 8 ≤ k - i
      · rw [zdn_top hd (by omega), Nat.mul_zero]
      · have hz : zcf q (zngP q (zqP q a b)) i = 0 := by
          unfold zngP
          rw [zcf_zho (by omega) _ hi]
          have hz2 : zcf q (zqP q a b) i = 0 := by
            unfold zqP
            rw [zcf_zho (by omega) _ hi, zdvL_hi _ _ _ (by omega)]
            exact Nat.zero_mod q
          rw [hz2, Nat.sub_zero, Nat.mod_self]
        rw [hz, Nat.zero_mul]
theorem zrem_some {r : Nat} (hr : zrg r) {a b : zE2} (ha : zok r a) (hb : zok r b) (hb0 : b ≠ (0, 0)) : ∃ v, zrem r a b = some v := by
  rcases zrg_c hr with rfl | rfl | hq
  · exact zrem_0 ha hb hb0
  · exact zrem_1 ha hb hb0
  · have hq7 := zprm_lt hq
    obtain ⟨v, hv, rfl⟩ := (zok_p hq).mp ha
    obtain ⟨u, hu, rfl⟩ := (zok_p hq).mp hb
    have hu0 : u ≠ 0 := fun e => hb0 (by rw [e]; rfl)
    obtain ⟨x, hx⟩ := zrem_p (a := v) hq hu hu0
    unfold zrem
    have hqq : zqP r v u < r ^ 8 := zho_lt (by omega) _ 8
    have hnn : zngP r (zqP r v u) < r ^ 8 := zho_lt (by omega) _ 8
    rw [zquo_p hq hv hu, zneg_p hq hqq, zplus_p hq hv hnn hu, hx]
    exact ⟨_, rfl⟩
