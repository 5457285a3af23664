/-! THE CLASS'S ELEMENTS: two ints in a long -/
def zen (a : zE2) : Int64 := ze64 a.1.toInt64 a.2.toInt64
theorem zmask (i : Nat) : (4294967295#64).getLsbD i = decide (i < 32) := by
  rw [show (4294967295#64) = BitVec.ofNat 64 (2 ^ 32 - 1) from rfl, BitVec.getLsbD_ofNat, Nat.testBit_two_pow_sub_one]
  by_cases h : i < 32
  · rw [decide_eq_true h, decide_eq_true (show i < 64 by omega)]; rfl
  · rw [decide_eq_false h, Bool.and_false]
theorem ze64_b (x y : Int64) (i : Nat) : (ze64 x y).toBitVec.getLsbD i = if i < 32 then y.toBitVec.getLsbD i else (decide (i < 64) && x.toBitVec.getLsbD (i - 32)) := by
  show ((x.toBitVec <<< (32#64).smod 64#64) ||| (y.toBitVec &&& 4294967295#64)).getLsbD i = _
  rw [show (32#64).smod 64#64 = 32#64 by decide, BitVec.shiftLeft_eq', show (32#64).toNat = 32 from rfl, BitVec.getLsbD_or, BitVec.getLsbD_and, zmask, BitVec.getLsbD_shiftLeft]
  by_cases h : i < 32
  · simp [h]
  · simp [h]
theorem zfi_b (x : Int64) (i : Nat) (hi : i < 32) : (zfi x).toBitVec.getLsbD i = x.toBitVec.getLsbD (i + 32) := by
  show ((x.toBitVec.sshiftRight' ((32#64).smod 64#64)).signExtend 32).getLsbD i = _
  rw [show (32#64).smod 64#64 = 32#64 by decide, BitVec.getLsbD_signExtend, decide_eq_true hi, if_pos (show i < 64 by omega), BitVec.getLsbD_sshiftRight', show (32#64).toNat = 32 from rfl]
  simp [show 32 + i < 64 by omega, Nat.add_comm 32 i, show ¬ 64 ≤ i by omega]
  intro h; omega
theorem z32_b (x : Int64) (i : Nat) (hi : i < 32) : x.toInt32.toBitVec.getLsbD i = x.toBitVec.getLsbD i := by
  show (x.toBitVec.signExtend 32).getLsbD i = _
  rw [BitVec.getLsbD_signExtend]
  simp [hi, show i < 64 by omega]
theorem z64_b (x : Int32) (i : Nat) (hi : i < 32) : x.toInt64.toBitVec.getLsbD i = x.toBitVec.getLsbD i := by
  show (x.toBitVec.signExtend 64).getLsbD i = _
  rw [BitVec.getLsbD_signExtend]
  simp [hi, show i < 64 by omega]
theorem zfi_e (x y : Int64) : zfi (ze64 x y) = x.toInt32 := by
  apply Int32.toBitVec_inj.mp
  apply BitVec.eq_of_getLsbD_eq
  intro i hi
  rw [zfi_b _ i hi, z32_b _ i hi, ze64_b, if_neg (by omega), decide_eq_true (show i + 32 < 64 by omega), Bool.true_and, Nat.add_sub_cancel]
theorem zse_e (x y : Int64) : zse (ze64 x y) = y.toInt32 := by
  apply Int32.toBitVec_inj.mp
  apply BitVec.eq_of_getLsbD_eq
  intro i hi
  show (ze64 x y).toInt32.toBitVec.getLsbD i = _
  rw [z32_b _ i hi, z32_b _ i hi, ze64_b, if_pos hi]
theorem z3264 (x : Int32) : x.toInt64.toInt32 = x := by
  apply Int32.toBitVec_inj.mp
  apply BitVec.eq_of_getLsbD_eq
  intro i hi
  rw [z32_b _ i hi, z64_b _ i hi]
theorem zfi_n (a : zE2) : zfi (zen a) = a.1 := by unfold zen; rw [zfi_e, z3264]
theorem zse_n (a : zE2) : zse (zen a) = a.2 := by unfold zen; rw [zse_e, z3264]
theorem ze64_n (x y : Int64) : ze64 x y = zen (x.toInt32, y.toInt32) := by
  apply Int64.toBitVec_inj.mp
  apply BitVec.eq_of_getLsbD_eq
  intro i hi
  show _ = (ze64 x.toInt32.toInt64 y.toInt32.toInt64).toBitVec.getLsbD i
  rw [ze64_b, ze64_b]
  by_cases h : i < 32
  · rw [if_pos h, if_pos h, z64_b _ i h, z32_b _ i h]
  · rw [if_neg h, if_neg h, z64_b _ (i - 32) (by omega), z32_b _ (i - 32) (by omega)]
theorem zen_inj {a b : zE2} (h : zen a = zen b) : a = b := by
  refine Prod.ext ?_ ?_
  · rw [← zfi_n a, h, zfi_n]
  · rw [← zse_n a, h, zse_n]
theorem zen_0 : zen (0, 0) = 0 := by decide
theorem zen_1 : zen (1, 0) = 4294967296 := by decide
theorem zen_z {a : zE2} : zen a = 0 ↔ a = (0, 0) := ⟨fun h => zen_inj (h.trans zen_0.symm), fun h => by rw [h]; exact zen_0⟩
theorem zen_o {a : zE2} : zen a = 4294967296 ↔ a = (1, 0) := ⟨fun h => zen_inj (h.trans zen_1.symm), fun h => by rw [h]; exact zen_1⟩
/-! integers -/
theorem c17 {P : zPt} {T : Nat → zX} {Y : zYt} {I : zIt} {A : zAt} {w : Nat → Int64} {p : Nat × Nat} {Q : zR → zH → Prop} {a f b : zE2} (H1 : ∀ v, zplus 0 a f b = some v → Q (.inl (some (.long (zen v)))) (zh (P, T, Y) I A w)) (H2 : zplus 0 a f b = none → Q (.inr 3) (zh (P, T, Y) I A w)) : zT zm_17 [.ref 1, .long (zen a), .long (zen f), .long (zen b)] p (zh (P, T, Y) I A w) Q := by
  refine b17 ?_
  rw [zfi_n, zfi_n, zfi_n, ze64_n]
  have e : ∀ x : Int64, zir0 x 0 = zin x (-1000000000) 1000000000 := fun x => by unfold zir0; rw [show decide ((0 : Int64) = 0) = true from rfl, Bool.and_true]
  rw [e]
  refine ⟨fun h => H1 _ ?_, fun h => H2 ?_⟩
  · simp only [zplus, h, cond_true]; rfl
  · simp only [zplus, h, cond_false]
theorem c19 {P : zPt} {T : Nat → zX} {Y : zYt} {I : zIt} {A : zAt} {w : Nat → Int64} {p : Nat × Nat} {Q : zR → zH → Prop} {a : zE2} (H : Q (.inl (some (.long (zen (zneg 0 a))))) (zh (P, T, Y) I A w)) : zT zm_19 [.ref 1, .long (zen a)] p (zh (P, T, Y) I A w) Q := by
  refine b19 ?_
  rw [zfi_n, ze64_n, z3264]
  exact H
theorem zabs_i {x : Int32} (h : -2147483648 < x.toInt) : (zabs x).toInt = (x.toInt.natAbs : Int) := by
  unfold zabs
  by_cases hz : 0 ≤ x
  · rw [decide_eq_true hz, cond_true]
    rw [Int32.le_iff_toInt_le, Int32.toInt_zero] at hz
    omega
  · rw [decide_eq_false hz, cond_false, zIn (by omega)]
    rw [Int32.le_iff_toInt_le, Int32.toInt_zero] at hz
    omega
theorem c18 {P : zPt} {T : Nat → zX} {Y : zYt} {I : zIt} {A : zAt} {w : Nat → Int64} {p : Nat × Nat} {Q : zR → zH → Prop} {a : zE2} (ha : zok 0 a) (H : Q (.inl (some (.long (zsz 0 a)))) (zh (P, T, Y) I A w)) : zT zm_18 [.ref 1, .long (zen a)] p (zh (P, T, Y) I A w) Q := by
  refine b18 ?_
  have h1 := ha.1
  rw [zfi_n, show (zabs a.1).toInt64 = zsz 0 a by rw [← Int64.toInt_inj, Int32.toInt_toInt64, zabs_i (by omega), zsz_0 ha]]
  exact H
theorem c21 {P : zPt} {T : Nat → zX} {Y : zYt} {I : zIt} {A : zAt} {w : Nat → Int64} {p : Nat × Nat} {Q : zR → zH → Prop} {a b : zE2} (ha : zok 0 a) (hb : zok 0 b) (hb0 : b ≠ (0, 0)) (H : Q (.inl (some (.long (zen (zquo 0 a b))))) (zh (P, T, Y) I A w)) : zT zm_21 [.ref 1, .long (zen a), .long (zen b)] p (zh (P, T, Y) I A w) Q := by
  have h1 := ha.1
  have h2 := ha.2.1
  have g1 := hb.1
  have g2 := hb.2.1
  have b2 : b.2.toInt = 0 := by rw [hb.2.2]; rfl
  have b0 : b.1.toInt ≠ 0 := fun h => hb0 (zE_0.mpr ⟨h, b2⟩)
  have ei := zabs_i (x := b.1) (by omega)
  refine b21 ⟨fun _ => b21_14 (b21_22 ⟨fun h => ?_, b21_25 ?_⟩), fun h => ?_⟩
  · rw [zfi_n] at h
    rw [h] at ei
    have : Int32.toInt 0 = 0 := rfl
    omega
  · rw [zfi_n, zfi_n]
    have ef := zfdi_i (a := a.1) (b := zabs b.1) (by omega) (by omega)
    have qb := zq0_b h1 h2 b0
    have eq : (zquo 0 a b).1.toInt = zq0 a.1.toInt b.1.toInt := zI_v (by omega) (by omega)
    rw [Int32.le_iff_toInt_le, Int32.toInt_zero, ze64_n, ze64_n, z3264, z3264]
    unfold zq0 at qb eq
    refine ⟨fun h => ?_, fun h => ?_⟩
    · rw [if_neg (by omega)] at qb eq
      have e1 : a.1.toInt / (zabs b.1).toInt = a.1.toInt / -b.1.toInt := by rw [ei, show (b.1.toInt.natAbs : Int) = -b.1.toInt by omega]
      have e2 : -zfdi a.1 (zabs b.1) = (zquo 0 a b).1 := by rw [← Int32.toInt_inj, zIn (by rw [ef, e1]; omega), ef, e1, eq]
      rw [e2]
      exact H
    · rw [if_pos (by omega)] at qb eq
      have e1 : a.1.toInt / (zabs b.1).toInt = a.1.toInt / b.1.toInt := by rw [ei, show (b.1.toInt.natAbs : Int) = b.1.toInt by omega]
      have e2 : zfdi a.1 (zabs b.1) = (zquo 0 a b).1 := by rw [← Int32.toInt_inj, ef, e1, eq]
      rw [e2]
      exact H
  · rw [zfi_n] at h
    exact absurd (by rw [h]; rfl) b0
theorem c22 {P : zPt} {T : Nat → zX} {Y : zYt} {I : zIt} {A : zAt} {w : Nat → Int64} {p : Nat × Nat} {Q : zR → zH → Prop} {a : zE2} (H : Q (.inl (some (.long (zen (znrm 0 a))))) (zh (P, T, Y) I A w)) : zT zm_22 [.ref 1, .long (zen a)] p (zh (P, T, Y) I A w) Q := by
  refine b22 ⟨fun h => ?_, fun h => ?_⟩
  · rw [zfi_n] at h
    have e : znrm 0 a = (1, 0) := by
      show ((bif decide (0 ≤ a.1) then (1 : Int32) else -1), (0 : Int32)) = (1, 0)
      rw [decide_eq_true h]; rfl
    rw [e] at H
    exact H
  · rw [zfi_n] at h
    have e : znrm 0 a = (-1, 0) := by
      show ((bif decide (0 ≤ a.1) then (1 : Int32) else -1), (0 : Int32)) = (-1, 0)
      rw [decide_eq_false h]; rfl
    rw [e] at H
    exact H
/-! Gaussian integers -/
theorem c2 {P : zPt} {T : Nat → zX} {Y : zYt} {I : zIt} {A : zAt} {w : Nat → Int64} {p : Nat × Nat} {Q : zR → zH → Prop} {a f b : zE2} (H1 : ∀ v, zplus 1 a f b = some v → Q (.inl (some (.long (zen v)))) (zh (P, T, Y) I A w)) (H2 : zplus 1 a f b = none → Q (.inr 3) (zh (P, T, Y) I A w)) : zT zm_2 [.ref 3, .long (zen a), .long (zen f), .long (zen b)] p (zh (P, T, Y) I A w) Q := by
  refine b2 ?_
  rw [zfi_n, zfi_n, zfi_n, zse_n, zse_n, zse_n, ze64_n]
  refine ⟨fun h => H1 _ ?_, fun h => H2 ?_⟩
  · unfold zir1 at h
    simp only [zplus, h, cond_true]
  · unfold zir1 at h
    simp only [zplus, h, cond_false]
theorem c4 {P : zPt} {T : Nat → zX} {Y : zYt} {I : zIt} {A : zAt} {w : Nat → Int64} {p : Nat × Nat} {Q : zR → zH → Prop} {a : zE2} (H : Q (.inl (some (.long (zen (zneg 1 a))))) (zh (P, T, Y) I A w)) : zT zm_4 [.ref 3, .long (zen a)] p (zh (P, T, Y) I A w) Q := by
  refine b4 ?_
  rw [zfi_n, zse_n, ze64_n, z3264, z3264]
  exact H
theorem c3 {P : zPt} {T : Nat → zX} {Y : zYt} {I : zIt} {A : zAt} {w : Nat → Int64} {p : Nat × Nat} {Q : zR → zH → Prop} {a : zE2} (H : Q (.inl (some (.long (zsz 1 a)))) (zh (P, T, Y) I A w)) : zT zm_3 [.ref 3, .long (zen a)] p (zh (P, T, Y) I A w) Q := by
  refine b3 ?_
  rw [zfi_n, zse_n]
  exact H
theorem c6 {P : zPt} {T : Nat → zX} {Y : zYt} {I : zIt} {A : zAt} {w : Nat → Int64} {p : Nat × Nat} {Q : zR → zH → Prop} {a b : zE2} (ha : zok 1 a) (hb : zok 1 b) (hb0 : b ≠ (0, 0)) (H : Q (.inl (some (.long (zen (zquo 1 a b))))) (zh (P, T, Y) I A w)) : zT zm_6 [.ref 3, .long (zen a), .long (zen b)] p (zh (P, T, Y) I A w) Q := by
  have hn := zq1n_pos (r := 1) hb0
  obtain ⟨h1, h2, h3, h4⟩ := ha
  obtain ⟨g1, g2, g3, g4⟩ := hb
  obtain ⟨n1, n2, n3, n4⟩ := zdiv1 h1 h2 h3 h4 g1 g2 g3 g4 hn
  have q1 := zq1_b h1 h2 h3 h4 (b1 := b.1.toInt) (b2 := b.2.toInt) (n := zq1n b) rfl hn
  have q2 := zq1_b (a1 := a.2.toInt) (a2 := -a.1.toInt) (b1 := b.1.toInt) (b2 := b.2.toInt) h3 h4 (by omega) (by omega) (n := zq1n b) rfl hn
  rw [Int.neg_mul, ← Int.sub_eq_add_neg] at q2
  have m1 := zmulb h1 h2 g1 g2
  have m2 := zmulb h3 h4 g3 g4
  have m3 := zmulb h3 h4 g1 g2
  have m4 := zmulb h1 h2 g3 g4
  have hN : zq1n (b.1, b.2) = zq1n b := rfl
  refine b6 (c3 (b6_5 ?_))
  have ez : zsz 1 b = b.1.toInt64 * b.1.toInt64 + b.2.toInt64 * b.2.toInt64 := rfl
  rw [ez, zfi_n, zfi_n, zse_n, zse_n]
  have t1 := zL_n0 (x := (2 : Int64) * (b.1.toInt64 * b.1.toInt64 + b.2.toInt64 * b.2.toInt64)) (by omega)
  refine ⟨fun _ => ⟨t1, t1, ?_⟩, fun h => absurd h (zL_n0 (by omega))⟩
  rw [zfdl_flr (by omega), zfdl_flr (by omega), ze64_n]
  have hX : (zflr ((2 : Int64) * (a.1.toInt64 * b.1.toInt64 + a.2.toInt64 * b.2.toInt64) + (b.1.toInt64 * b.1.toInt64 + b.2.toInt64 * b.2.toInt64)) ((2 : Int64) * (b.1.toInt64 * b.1.toInt64 + b.2.toInt64 * b.2.toInt64))).toInt = zq1x a b := by
    rw [zflr_i (by omega) (by omega), n2, n3]; rfl
  have hY : (zflr ((2 : Int64) * (a.2.toInt64 * b.1.toInt64 - a.1.toInt64 * b.2.toInt64) + (b.1.toInt64 * b.1.toInt64 + b.2.toInt64 * b.2.toInt64)) ((2 : Int64) * (b.1.toInt64 * b.1.toInt64 + b.2.toInt64 * b.2.toInt64))).toInt = zq1y a b := by
    rw [zflr_i (by omega) (by omega), n2, n4]; rfl
  rw [zL_I hX (by unfold zq1x; omega) (by unfold zq1x; omega), zL_I hY (by unfold zq1y; omega) (by unfold zq1y; omega)]
  exact H
theorem c7 {P : zPt} {T : Nat → zX} {Y : zYt} {I : zIt} {A : zAt} {w : Nat → Int64} {p : Nat × Nat} {Q : zR → zH → Prop} {a : zE2} (H : Q (.inl (some (.long (zen (znrm 1 a))))) (zh (P, T, Y) I A w)) : zT zm_7 [.ref 3, .long (zen a)] p (zh (P, T, Y) I A w) Q := by
  refine b7 ?_
  rw [zfi_n, zse_n]
  have li : ∀ {x y : Int32}, x < y ↔ x.toInt < y.toInt := Int32.lt_iff_toInt_lt
  have le : ∀ {x y : Int32}, x ≤ y ↔ x.toInt ≤ y.toInt := Int32.le_iff_toInt_le
  have go : ∀ {e : zE2}, znrm 1 a = e → Q (.inl (some (.long (zen e)))) (zh (P, T, Y) I A w) := fun h => by rw [← h]; exact H
  have e1 : Q (.inl (some (.long (4294967296 : Int64)))) (zh (P, T, Y) I A w) = Q (.inl (some (.long (zen (1, 0))))) (zh (P, T, Y) I A w) := by rw [zen_1]
  rw [e1, show ze64 (0 : Int64) 1 = zen (0, 1) from rfl, show ze64 (-1 : Int64) 0 = zen (-1, 0) from rfl, show ze64 (0 : Int64) (-1) = zen (0, -1) from rfl]
  have z : Int32.toInt 0 = 0 := rfl
  simp only [li, le, z]
  have nd : znrm 1 a = if a.1.toInt ≤ 0 ∧ 0 < a.2.toInt then (0, -1) else if a.1.toInt < 0 then (-1, 0) else if a.2.toInt < 0 then (0, 1) else (1, 0) := by
    show (if a.1 ≤ 0 ∧ 0 < a.2 then ((0 : Int32), (-1 : Int32)) else if a.1 < 0 then (-1, 0) else if a.2 < 0 then (0, 1) else (1, 0)) = _
    simp only [li, le, z]
  refine ⟨fun c1 => ⟨fun c2 => ⟨fun c3 => go ?_, fun c3 => go ?_⟩, fun c2 => ?_⟩, fun c1 => ⟨fun c2 => ⟨fun c3 => ⟨fun c4 => go ?_, fun c4 => go ?_⟩, fun c3 => go ?_⟩, fun c2 => go ?_⟩⟩
  · rw [nd, if_neg (by omega), if_neg (by omega), if_neg (by omega)]
  · rw [nd, if_neg (by omega), if_neg (by omega), if_pos (by omega)]
  · omega
  · rw [nd, if_neg (by omega), if_neg (by omega), if_neg (by omega)]
  · rw [nd, if_neg (by omega), if_neg (by omega), if_pos (by omega)]
  · rw [nd, if_neg (by omega), if_pos (by omega)]
  · rw [nd, if_pos (by omega)]
