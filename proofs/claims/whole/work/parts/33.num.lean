/-! numbers: Int64 without overflow, floors -/
theorem ztdn {a b : Int} (ha : a ≤ 0) (hb : 0 ≤ b) : a.tdiv b ≤ 0 := by
  have := Int.tdiv_nonneg (a := -a) (b := b) (by omega) hb
  rw [Int.neg_tdiv] at this
  omega
theorem ztmn (b : Int) {a : Int} (ha : a ≤ 0) : a.tmod b ≤ 0 := by
  have := Int.tmod_nonneg (a := -a) b (by omega)
  rw [Int.neg_tmod] at this
  omega
theorem zmulb {a b A B : Int} (h1 : -A ≤ a) (h2 : a ≤ A) (h3 : -B ≤ b) (h4 : b ≤ B) : -(A * B) ≤ a * b ∧ a * b ≤ A * B := by
  have e := Int.natAbs_mul a b
  have hA : a.natAbs ≤ A.natAbs := by omega
  have hB : b.natAbs ≤ B.natAbs := by omega
  have h := Nat.mul_le_mul hA hB
  rw [← e] at h
  have e2 : A * B = ((A.natAbs * B.natAbs : Nat) : Int) := by rw [Int.natCast_mul, Int.natAbs_of_nonneg (by omega), Int.natAbs_of_nonneg (by omega)]
  rw [e2]
  omega
theorem zLa {x y : Int64} (h1 : -9223372036854775808 ≤ x.toInt + y.toInt) (h2 : x.toInt + y.toInt ≤ 9223372036854775807) : (x + y).toInt = x.toInt + y.toInt := by
  rw [Int64.toInt_add]
  generalize x.toInt + y.toInt = v at *
  rw [Int.bmod_def]
  split <;> omega
theorem zLs {x y : Int64} (h1 : -9223372036854775808 ≤ x.toInt - y.toInt) (h2 : x.toInt - y.toInt ≤ 9223372036854775807) : (x - y).toInt = x.toInt - y.toInt := by
  rw [Int64.toInt_sub]
  generalize x.toInt - y.toInt = v at *
  rw [Int.bmod_def]
  split <;> omega
theorem zLm {x y : Int64} (h1 : -9223372036854775808 ≤ x.toInt * y.toInt) (h2 : x.toInt * y.toInt ≤ 9223372036854775807) : (x * y).toInt = x.toInt * y.toInt := by
  rw [Int64.toInt_mul]
  generalize x.toInt * y.toInt = v at *
  rw [Int.bmod_def]
  split <;> omega
theorem zLn {x : Int64} (h1 : -9223372036854775807 ≤ x.toInt) : (-x).toInt = -x.toInt := by
  have h2 := Int64.toInt_lt x
  rw [Int64.toInt_neg]
  generalize x.toInt = v at *
  rw [Int.bmod_def]
  split <;> omega
theorem zIn {x : Int32} (h1 : -2147483647 ≤ x.toInt) : (-x).toInt = -x.toInt := by
  have h2 := Int32.toInt_lt x
  rw [Int32.toInt_neg]
  generalize x.toInt = v at *
  rw [Int.bmod_def]
  split <;> omega
theorem zLd {x y : Int64} (hy : 0 < y.toInt) : (x / y).toInt = x.toInt.tdiv y.toInt := by
  have h1 := Int64.toInt_lt x
  have h2 := Int64.le_toInt x
  have h3 : (x.toInt.tdiv y.toInt).natAbs ≤ x.toInt.natAbs := by rw [Int.natAbs_tdiv]; exact Nat.div_le_self _ _
  have hx : x.toInt ≠ -9223372036854775808 ∨ x.toInt.tdiv y.toInt ≤ 0 := by
    by_cases h : x.toInt = -9223372036854775808
    · right; rw [h]; exact ztdn (by omega) (by omega)
    · left; exact h
  rw [Int64.toInt_div]
  generalize x.toInt.tdiv y.toInt = v at *
  rw [Int.bmod_def]
  split <;> omega
theorem zId {x y : Int32} (hy : 0 < y.toInt) : (x / y).toInt = x.toInt.tdiv y.toInt := by
  have h1 := Int32.toInt_lt x
  have h2 := Int32.le_toInt x
  have h3 : (x.toInt.tdiv y.toInt).natAbs ≤ x.toInt.natAbs := by rw [Int.natAbs_tdiv]; exact Nat.div_le_self _ _
  have hx : x.toInt ≠ -2147483648 ∨ x.toInt.tdiv y.toInt ≤ 0 := by
    by_cases h : x.toInt = -2147483648
    · right; rw [h]; exact ztdn (by omega) (by omega)
    · left; exact h
  rw [Int32.toInt_div]
  generalize x.toInt.tdiv y.toInt = v at *
  rw [Int.bmod_def]
  split <;> omega
theorem zI_of {x : Int32} {v : Int} (h : x.toInt = v) : x = Int32.ofInt v := by rw [← h, Int32.ofInt_toInt]
theorem zL_32 {x : Int64} (h1 : -2147483648 ≤ x.toInt) (h2 : x.toInt ≤ 2147483647) : x.toInt32.toInt = x.toInt := by
  rw [Int64.toInt_toInt32]
  generalize x.toInt = v at *
  rw [Int.bmod_def]
  split <;> omega
theorem zI_v {v : Int} (h1 : -2147483648 ≤ v) (h2 : v ≤ 2147483647) : (Int32.ofInt v).toInt = v := by
  rw [Int32.toInt_ofInt, show Int32.size = 4294967296 from rfl, Int.bmod_def]
  split <;> omega
/-- the floor out of the quotient that is cut off -/
theorem zfloor {a b : Int} (hb : 0 < b) : a / b = if (a - a.tdiv b * b ≠ 0) ∧ a < 0 then a.tdiv b - 1 else a.tdiv b := by
  have h1 := Int.mul_tdiv_add_tmod a b
  have h2 := Int.mul_ediv_add_emod a b
  have h3 := Int.emod_nonneg a (show b ≠ 0 by omega)
  have h4 := Int.emod_lt_of_pos a hb
  have h5 : a - a.tdiv b * b = a.tmod b := by rw [Int.mul_comm]; omega
  rw [h5]
  by_cases ha : 0 ≤ a
  · rw [if_neg (by omega), Int.tdiv_eq_ediv_of_nonneg ha]
  · have h6 := ztmn b (show a ≤ 0 by omega)
    have h7 := Int.lt_tmod_of_pos a hb
    by_cases h0 : a.tmod b = 0
    · rw [if_neg (by omega)]
      refine Int.ediv_eq_of_eq_mul_right (by omega) ?_
      omega
    · rw [if_pos ⟨h0, by omega⟩]
      have : b * (a / b) + a % b = b * (a.tdiv b - 1) + (b + a.tmod b) := by rw [Int.mul_sub, Int.mul_one]; omega
      have h8 : (b * (a.tdiv b - 1) + (b + a.tmod b)) / b = a.tdiv b - 1 := by
        rw [Int.add_comm, Int.add_mul_ediv_left _ _ (by omega), Int.ediv_eq_zero_of_lt (by omega) (by omega), Int.zero_add]
      rw [← this, h2] at h8
      exact h8
theorem zflr_i {a b : Int64} (hb : 0 < b.toInt) (ha : -9223372036854775808 < a.toInt) : (zflr a b).toInt = a.toInt / b.toInt := by
  have h3 : (a.toInt.tdiv b.toInt).natAbs ≤ a.toInt.natAbs := by rw [Int.natAbs_tdiv]; exact Nat.div_le_self _ _
  have h1 := Int64.toInt_lt a
  have e1 := zLd (x := a) hb
  have h5 := Int.mul_tdiv_add_tmod a.toInt b.toInt
  have h6 : (a.toInt.tmod b.toInt).natAbs ≤ a.toInt.natAbs := by rw [Int.natAbs_tmod]; exact Nat.mod_le _ _
  have hm : a.toInt.tdiv b.toInt * b.toInt = a.toInt - a.toInt.tmod b.toInt := by rw [Int.mul_comm]; omega
  have hs : 0 ≤ a.toInt → 0 ≤ a.toInt.tmod b.toInt := fun h => Int.tmod_nonneg _ h
  have hs2 : a.toInt ≤ 0 → a.toInt.tmod b.toInt ≤ 0 := fun h => ztmn _ h
  have e2 : (a / b * b).toInt = a.toInt.tdiv b.toInt * b.toInt := by rw [zLm (by rw [e1]; omega) (by rw [e1]; omega), e1]
  have e3 : (a - a / b * b).toInt = a.toInt - a.toInt.tdiv b.toInt * b.toInt := by rw [zLs (by rw [e2]; omega) (by rw [e2]; omega), e2]
  have hd : decide (a - a / b * b = 0) = decide (a.toInt - a.toInt.tdiv b.toInt * b.toInt = 0) := by rw [decide_eq_decide, ← Int64.toInt_inj, e3]; rfl
  have hn : decide (b < 0) = false := decide_eq_false (by rw [Int64.lt_iff_toInt_lt, show Int64.toInt 0 = 0 from rfl]; omega)
  have ha0 : decide (a < 0) = decide (a.toInt < 0) := by rw [decide_eq_decide, Int64.lt_iff_toInt_lt]; rfl
  rw [zfloor hb]
  unfold zflr
  rw [hd, hn, ha0]
  by_cases c1 : a.toInt - a.toInt.tdiv b.toInt * b.toInt = 0
  · rw [decide_eq_true c1, if_neg (by omega)]; exact e1
  · by_cases c2 : a.toInt < 0
    · rw [decide_eq_false c1, decide_eq_true c2, if_pos ⟨c1, c2⟩]
      show (a / b - 1).toInt = _
      rw [zLs (by rw [e1, show Int64.toInt 1 = 1 from rfl]; omega) (by rw [e1, show Int64.toInt 1 = 1 from rfl]; omega), e1]; rfl
    · rw [decide_eq_false c1, decide_eq_false c2, if_neg (by omega)]; exact e1
theorem zxor64 (x y : Int64) : (x ^^^ y < 0) ↔ ((x < 0) ≠ (y < 0)) := by
  have h : ∀ z : Int64, z < 0 ↔ z.toBitVec.msb = true := fun z => by rw [Int64.lt_iff_toInt_lt, Int64.toInt_zero, ← Int64.toInt_toBitVec, BitVec.msb_eq_toInt, decide_eq_true_eq]
  rw [h, h, h, Int64.toBitVec_xor, BitVec.msb_xor]
  cases x.toBitVec.msb <;> cases y.toBitVec.msb <;> simp
theorem zxor32 (x y : Int32) : (x ^^^ y < 0) ↔ ((x < 0) ≠ (y < 0)) := by
  have h : ∀ z : Int32, z < 0 ↔ z.toBitVec.msb = true := fun z => by rw [Int32.lt_iff_toInt_lt, Int32.toInt_zero, ← Int32.toInt_toBitVec, BitVec.msb_eq_toInt, decide_eq_true_eq]
  rw [h, h, h, Int32.toBitVec_xor, BitVec.msb_xor]
  cases x.toBitVec.msb <;> cases y.toBitVec.msb <;> simp
theorem zfdl_flr {a b : Int64} (hb : 0 < b.toInt) : zfdl a b = zflr a b := by
  have hn : ¬ b < 0 := by rw [Int64.lt_iff_toInt_lt, show Int64.toInt 0 = 0 from rfl]; omega
  have e1 : decide (a / b * b = a) = decide (a - a / b * b = 0) := by
    rw [decide_eq_decide]
    constructor
    · intro h; rw [h, Int64.sub_self]
    · intro h
      have := congrArg (fun z => z + a / b * b) h
      simp only [Int64.sub_add_cancel, Int64.zero_add] at this
      exact this.symm
  have e2 : decide (a ^^^ b < 0) = decide (a < 0) := by
    rw [decide_eq_decide, zxor64]
    simp [hn]
  unfold zfdl zflr
  rw [e1, e2, decide_eq_false hn]
  cases decide (a < 0) <;> cases decide (a - a / b * b = 0) <;> rfl
theorem zfdi_i {a b : Int32} (hb : 0 < b.toInt) (ha : -2147483648 < a.toInt) : (zfdi a b).toInt = a.toInt / b.toInt := by
  have h3 : (a.toInt.tdiv b.toInt).natAbs ≤ a.toInt.natAbs := by rw [Int.natAbs_tdiv]; exact Nat.div_le_self _ _
  have h1 := Int32.toInt_lt a
  have e1 := zId (x := a) hb
  have h5 := Int.mul_tdiv_add_tmod a.toInt b.toInt
  have h6 : (a.toInt.tmod b.toInt).natAbs ≤ a.toInt.natAbs := by rw [Int.natAbs_tmod]; exact Nat.mod_le _ _
  have hm : a.toInt.tdiv b.toInt * b.toInt = a.toInt - a.toInt.tmod b.toInt := by rw [Int.mul_comm]; omega
  have hs : 0 ≤ a.toInt → 0 ≤ a.toInt.tmod b.toInt := fun h => Int.tmod_nonneg _ h
  have hs2 : a.toInt ≤ 0 → a.toInt.tmod b.toInt ≤ 0 := fun h => ztmn _ h
  have e2 : (a / b * b).toInt = a.toInt.tdiv b.toInt * b.toInt := by
    rw [Int32.toInt_mul, e1, hm]
    rw [Int.bmod_def]
    split <;> omega
  have hd : decide (a / b * b = a) = decide (a.toInt - a.toInt.tdiv b.toInt * b.toInt = 0) := by rw [decide_eq_decide, ← Int32.toInt_inj, e2]; omega
  have hn : ¬ b < 0 := by rw [Int32.lt_iff_toInt_lt, Int32.toInt_zero]; omega
  have ha0 : decide (a ^^^ b < 0) = decide (a.toInt < 0) := by
    rw [decide_eq_decide, zxor32, Int32.lt_iff_toInt_lt]
    simp [hn]
  rw [zfloor hb]
  unfold zfdi
  rw [hd, ha0]
  by_cases c1 : a.toInt - a.toInt.tdiv b.toInt * b.toInt = 0
  · rw [decide_eq_true c1, if_neg (by omega)]; simp only [Bool.not_true, Bool.and_false, cond_false]; exact e1
  · by_cases c2 : a.toInt < 0
    · rw [decide_eq_false c1, decide_eq_true c2, if_pos ⟨c1, c2⟩]
      show (a / b - 1).toInt = _
      rw [Int32.toInt_sub, e1, show Int32.toInt 1 = 1 from rfl, Int.bmod_def]
      split <;> omega
    · rw [decide_eq_false c1, decide_eq_false c2, if_neg (by omega)]; exact e1
