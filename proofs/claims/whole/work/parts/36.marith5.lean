/-! the reference's quotient, remainder, size and normalizer -/
theorem zLd' {x y : Int64} (hx : -9223372036854775808 < x.toInt) : (x / y).toInt = x.toInt.tdiv y.toInt := by
  have h1 := Int64.toInt_lt x
  have h3 : (x.toInt.tdiv y.toInt).natAbs ≤ x.toInt.natAbs := by rw [Int.natAbs_tdiv]; exact Nat.div_le_self _ _
  rw [Int64.toInt_div]
  generalize x.toInt.tdiv y.toInt = v at *
  rw [Int.bmod_def]
  split <;> omega
theorem zq0_b {a b : Int} (ha : -1000000000 ≤ a) (ha2 : a ≤ 1000000000) (hb : b ≠ 0) : -1000000000 ≤ zq0 a b ∧ zq0 a b ≤ 1000000000 := by
  have g : ∀ c : Int, 0 < c → -1000000000 ≤ a / c ∧ a / c ≤ 1000000000 := by
    intro c hc
    constructor
    · rw [Int.le_ediv_iff_mul_le hc]
      have := Int.mul_le_mul_of_nonneg_left (show (1 : Int) ≤ c by omega) (show (0 : Int) ≤ 1000000000 by decide)
      omega
    · have : a / c < 1000000001 := by
        rw [Int.ediv_lt_iff_lt_mul hc]
        have := Int.mul_le_mul_of_nonneg_left (show (1 : Int) ≤ c by omega) (show (0 : Int) ≤ 1000000001 by decide)
        omega
      omega
  unfold zq0
  split
  · exact g b (by omega)
  · have := g (-b) (by omega); omega
theorem zsq (t : Int) : t.natAbs ≤ t * t ∧ 0 ≤ t * t := by
  have h : t * t = ((t.natAbs * t.natAbs : Nat) : Int) := by rw [Int.natCast_mul, Int.natAbs_mul_self' t]
  have h2 : t.natAbs ≤ t.natAbs * t.natAbs := by
    rcases Nat.eq_zero_or_pos t.natAbs with h0 | h0
    · omega
    · exact Nat.le_mul_of_pos_right _ h0
  rw [h]
  omega
theorem zq1_b {a1 a2 b1 b2 n : Int} (h1 : -30000 ≤ a1) (h2 : a1 ≤ 30000) (h3 : -30000 ≤ a2) (h4 : a2 ≤ 30000) (hn : n = b1 * b1 + b2 * b2) (h0 : 0 < n) : -30000 ≤ (2 * (a1 * b1 + a2 * b2) + n) / (2 * n) ∧ (2 * (a1 * b1 + a2 * b2) + n) / (2 * n) ≤ 30000 := by
  have s1 := zsq b1
  have s2 := zsq b2
  have m1 := zmulb (a := a1) (b := b1) (A := 30000) (B := b1.natAbs) h1 h2 (by omega) (by omega)
  have m2 := zmulb (a := a2) (b := b2) (A := 30000) (B := b2.natAbs) h3 h4 (by omega) (by omega)
  constructor
  · rw [Int.le_ediv_iff_mul_le (by omega)]; omega
  · have : (2 * (a1 * b1 + a2 * b2) + n) / (2 * n) < 30001 := by rw [Int.ediv_lt_iff_lt_mul (by omega)]; omega
    omega
theorem zq1n_pos {r : Nat} {b : zE2} (h : b ≠ (0, 0)) : 0 < zq1n b := by
  have s1 := zsq b.1.toInt
  have s2 := zsq b.2.toInt
  unfold zq1n
  have : b.1.toInt ≠ 0 ∨ b.2.toInt ≠ 0 := by
    by_cases e1 : b.1.toInt = 0
    · right
      intro e2
      apply h
      have x1 : b.1 = 0 := by rw [← Int32.toInt_inj, e1]; rfl
      have x2 : b.2 = 0 := by rw [← Int32.toInt_inj, e2]; rfl
      exact Prod.ext x1 x2
    · left; exact e1
  omega
theorem zok_neg {r : Nat} (hr : zrg r) {a : zE2} (ha : zok r a) : zok r (zneg r a) := by
  by_cases h0 : r = 0
  · subst h0
    obtain ⟨h1, h2, h3⟩ := ha
    exact ⟨by show -1000000000 ≤ (-a.1).toInt; rw [zIn (by omega)]; omega, by show (-a.1).toInt ≤ 1000000000; rw [zIn (by omega)]; omega, rfl⟩
  · by_cases h1 : r = 1
    · subst h1
      obtain ⟨h1, h2, h3, h4⟩ := ha
      have e1 := zIn (x := a.1) (by omega)
      have e2 := zIn (x := a.2) (by omega)
      exact ⟨by show -30000 ≤ (-a.1).toInt; omega, by show (-a.1).toInt ≤ 30000; omega, by show -30000 ≤ (-a.2).toInt; omega, by show (-a.2).toInt ≤ 30000; omega⟩
    · have hq : zprm r := by unfold zrg at hr; unfold zprm; omega
      have hq7 := zprm_lt hq
      obtain ⟨v, hv, rfl⟩ := (zok_p hq).mp ha
      rw [zneg_p hq hv]
      exact (zok_p hq).mpr ⟨_, zho_lt (by omega) _ 8, rfl⟩
theorem zok_quo {r : Nat} (hr : zrg r) {a b : zE2} (ha : zok r a) (hb : zok r b) (hb0 : b ≠ (0, 0)) : zok r (zquo r a b) := by
  by_cases h0 : r = 0
  · subst h0
    obtain ⟨h1, h2, h3⟩ := ha
    obtain ⟨g1, g2, g3⟩ := hb
    have hb1 : b.1.toInt ≠ 0 := fun e => hb0 (Prod.ext (by show b.1 = 0; rw [← Int32.toInt_inj, e]; rfl) g3)
    have hq := zq0_b h1 h2 hb1
    exact ⟨by show -1000000000 ≤ (Int32.ofInt _).toInt; rw [zI_v (by omega) (by omega)]; exact hq.1, by show (Int32.ofInt _).toInt ≤ 1000000000; rw [zI_v (by omega) (by omega)]; exact hq.2, rfl⟩
  · by_cases h1 : r = 1
    · subst h1
      obtain ⟨h1, h2, h3, h4⟩ := ha
      have hn := zq1n_pos (r := 1) hb0
      have q1 := zq1_b h1 h2 h3 h4 (b1 := b.1.toInt) (b2 := b.2.toInt) (n := zq1n b) rfl hn
      have q2 := zq1_b (a1 := a.2.toInt) (a2 := -a.1.toInt) (b1 := b.1.toInt) (b2 := b.2.toInt) h3 h4 (by omega) (by omega) (n := zq1n b) rfl hn
      rw [Int.neg_mul, ← Int.sub_eq_add_neg] at q2
      exact ⟨by show -30000 ≤ (Int32.ofInt (zq1x a b)).toInt; unfold zq1x; rw [zI_v (by omega) (by omega)]; exact q1.1, by show (Int32.ofInt (zq1x a b)).toInt ≤ 30000; unfold zq1x; rw [zI_v (by omega) (by omega)]; exact q1.2,
        by show -30000 ≤ (Int32.ofInt (zq1y a b)).toInt; unfold zq1y; rw [zI_v (by omega) (by omega)]; exact q2.1, by show (Int32.ofInt (zq1y a b)).toInt ≤ 30000; unfold zq1y; rw [zI_v (by omega) (by omega)]; exact q2.2⟩
    · have hq : zprm r := by unfold zrg at hr; unfold zprm; omega
      have hq7 := zprm_lt hq
      obtain ⟨v, hv, rfl⟩ := (zok_p hq).mp ha
      obtain ⟨u, hu, rfl⟩ := (zok_p hq).mp hb
      rw [zquo_p hq hv hu]
      exact (zok_p hq).mpr ⟨_, zho_lt (by omega) _ 8, rfl⟩
theorem zok_plus {r : Nat} (hr : zrg r) {a f b v : zE2} (ha : zok r a) (hf : zok r f) (hb : zok r b) (h : zplus r a f b = some v) : zok r v := by
  have k : ∀ {z : Int64} {l u : Int}, l ≤ z.toInt → z.toInt ≤ u → -2147483648 ≤ l → u ≤ 2147483647 → l ≤ z.toInt32.toInt ∧ z.toInt32.toInt ≤ u := fun a1 a2 a3 a4 => by rw [zL_32 (by omega) (by omega)]; exact ⟨a1, a2⟩
  by_cases h0 : r = 0
  · subst h0
    simp only [zplus] at h
    obtain ⟨hz, h⟩ := zbifO h
    cases h
    rw [zin_iff, show Int64.toInt (-1000000000) = -1000000000 from rfl, show Int64.toInt 1000000000 = 1000000000 from rfl] at hz
    have := k hz.1 hz.2 (by decide) (by decide)
    exact ⟨this.1, this.2, rfl⟩
  · by_cases h1 : r = 1
    · subst h1
      simp only [zplus] at h
      obtain ⟨hz, h⟩ := zbifO h
      cases h
      rw [Bool.and_eq_true, zin_iff, zin_iff, show Int64.toInt (-30000) = -30000 from rfl, show Int64.toInt 30000 = 30000 from rfl] at hz
      have q1 := k hz.1.1 hz.1.2 (by decide) (by decide)
      have q2 := k hz.2.1 hz.2.2 (by decide) (by decide)
      exact ⟨q1.1, q1.2, q2.1, q2.2⟩
    · have hq : zprm r := by unfold zrg at hr; unfold zprm; omega
      have hq7 := zprm_lt hq
      obtain ⟨x, hx, rfl⟩ := (zok_p hq).mp ha
      obtain ⟨y, hy, rfl⟩ := (zok_p hq).mp hf
      obtain ⟨z, hz, rfl⟩ := (zok_p hq).mp hb
      rw [zplus_p hq hx hy hz] at h
      obtain ⟨w, hw, rfl⟩ := Option.map_eq_some_iff.mp h
      unfold zplP at hw
      split at hw
      · cases hw
      · cases hw
        exact (zok_p hq).mpr ⟨_, zho_lt (by omega) _ 8, rfl⟩
/-- what the reference reckons for integers -/
theorem zdiv0 {a b : Int32} (h1 : -1000000000 ≤ a.toInt) (h2 : a.toInt ≤ 1000000000) (g1 : -1000000000 ≤ b.toInt) (g2 : b.toInt ≤ 1000000000) {S : Int64} (hS : S.toInt = if 0 ≤ b.toInt then b.toInt else -b.toInt) (hb : b.toInt ≠ 0) :
    ((a.toInt64 - (a.toInt64 - S * zflr a.toInt64 S)) / b.toInt64).toInt = zq0 a.toInt b.toInt := by
  have ea : a.toInt64.toInt = a.toInt := Int32.toInt_toInt64 a
  have eb : b.toInt64.toInt = b.toInt := Int32.toInt_toInt64 b
  obtain ⟨c, hc⟩ : ∃ c, c = S.toInt := ⟨_, rfl⟩
  rw [← hc] at hS
  have hc0 : 0 < c := by split at hS <;> omega
  have hcb : c ≤ 1000000000 := by split at hS <;> omega
  have hd := Int.mul_ediv_add_emod a.toInt c
  have he1 := Int.emod_nonneg a.toInt (show c ≠ 0 by omega)
  have he2 := Int.emod_lt_of_pos a.toInt hc0
  have e1 : (zflr a.toInt64 S).toInt = a.toInt / c := by rw [zflr_i (by omega) (by rw [ea]; omega), ea, ← hc]
  have e2 : (S * zflr a.toInt64 S).toInt = c * (a.toInt / c) := by rw [zLm (by rw [e1, ← hc]; omega) (by rw [e1, ← hc]; omega), e1, ← hc]
  have e3 : (a.toInt64 - S * zflr a.toInt64 S).toInt = a.toInt - c * (a.toInt / c) := by rw [zLs (by rw [ea, e2]; omega) (by rw [ea, e2]; omega), ea, e2]
  have e4 : (a.toInt64 - (a.toInt64 - S * zflr a.toInt64 S)).toInt = c * (a.toInt / c) := by rw [zLs (by rw [ea, e3]; omega) (by rw [ea, e3]; omega), ea, e3]; omega
  rw [zLd' (by rw [e4]; omega), e4, eb]
  unfold zq0
  by_cases hp : 0 < b.toInt
  · rw [if_pos hp]
    rw [if_pos (by omega)] at hS
    rw [hS]
    exact Int.mul_tdiv_cancel_left _ (by omega)
  · rw [if_neg hp]
    rw [if_neg (by omega)] at hS
    rw [hS, show -b.toInt * (a.toInt / -b.toInt) = b.toInt * (-(a.toInt / -b.toInt)) by rw [Int.neg_mul, Int.mul_neg]]
    exact Int.mul_tdiv_cancel_left _ (by omega)
/-- what it reckons for Gaussian integers -/
theorem zdiv1 {a1 a2 b1 b2 : Int32} (h1 : -30000 ≤ a1.toInt) (h2 : a1.toInt ≤ 30000) (h3 : -30000 ≤ a2.toInt) (h4 : a2.toInt ≤ 30000) (g1 : -30000 ≤ b1.toInt) (g2 : b1.toInt ≤ 30000) (g3 : -30000 ≤ b2.toInt) (g4 : b2.toInt ≤ 30000) (hn : 0 < zq1n (b1, b2)) :
    (b1.toInt64 * b1.toInt64 + b2.toInt64 * b2.toInt64).toInt = zq1n (b1, b2) ∧ ((2 : Int64) * (b1.toInt64 * b1.toInt64 + b2.toInt64 * b2.toInt64)).toInt = 2 * zq1n (b1, b2) ∧
    ((2 : Int64) * (a1.toInt64 * b1.toInt64 + a2.toInt64 * b2.toInt64) + (b1.toInt64 * b1.toInt64 + b2.toInt64 * b2.toInt64)).toInt = 2 * (a1.toInt * b1.toInt + a2.toInt * b2.toInt) + zq1n (b1, b2) ∧
    ((2 : Int64) * (a2.toInt64 * b1.toInt64 - a1.toInt64 * b2.toInt64) + (b1.toInt64 * b1.toInt64 + b2.toInt64 * b2.toInt64)).toInt = 2 * (a2.toInt * b1.toInt - a1.toInt * b2.toInt) + zq1n (b1, b2) := by
  have e : ∀ x : Int32, x.toInt64.toInt = x.toInt := Int32.toInt_toInt64
  have m : ∀ {x y : Int32}, -30000 ≤ x.toInt → x.toInt ≤ 30000 → -30000 ≤ y.toInt → y.toInt ≤ 30000 → (x.toInt64 * y.toInt64).toInt = x.toInt * y.toInt ∧ -900000000 ≤ x.toInt * y.toInt ∧ x.toInt * y.toInt ≤ 900000000 := by
    intro x y p1 p2 p3 p4
    have := zmulb p1 p2 p3 p4
    exact ⟨by rw [zLm (by rw [e, e]; omega) (by rw [e, e]; omega), e, e], by omega, by omega⟩
  obtain ⟨a, a', a''⟩ := m g1 g2 g1 g2
  obtain ⟨b, b', b''⟩ := m g3 g4 g3 g4
  obtain ⟨c, c', c''⟩ := m h1 h2 g1 g2
  obtain ⟨d, d', d''⟩ := m h3 h4 g3 g4
  obtain ⟨f, f', f''⟩ := m h3 h4 g1 g2
  obtain ⟨k, k', k''⟩ := m h1 h2 g3 g4
  have two : Int64.toInt 2 = 2 := rfl
  have n1 : (b1.toInt64 * b1.toInt64 + b2.toInt64 * b2.toInt64).toInt = zq1n (b1, b2) := by rw [zLa (by rw [a, b]; omega) (by rw [a, b]; omega), a, b]; rfl
  have hnb : zq1n (b1, b2) ≤ 1800000000 := by unfold zq1n; dsimp only; omega
  have x1 : (a1.toInt64 * b1.toInt64 + a2.toInt64 * b2.toInt64).toInt = a1.toInt * b1.toInt + a2.toInt * b2.toInt := by rw [zLa (by rw [c, d]; omega) (by rw [c, d]; omega), c, d]
  have y1 : (a2.toInt64 * b1.toInt64 - a1.toInt64 * b2.toInt64).toInt = a2.toInt * b1.toInt - a1.toInt * b2.toInt := by rw [zLs (by rw [f, k]; omega) (by rw [f, k]; omega), f, k]
  have x2 : ((2 : Int64) * (a1.toInt64 * b1.toInt64 + a2.toInt64 * b2.toInt64)).toInt = 2 * (a1.toInt * b1.toInt + a2.toInt * b2.toInt) := by rw [zLm (by rw [two, x1]; omega) (by rw [two, x1]; omega), two, x1]
  have y2 : ((2 : Int64) * (a2.toInt64 * b1.toInt64 - a1.toInt64 * b2.toInt64)).toInt = 2 * (a2.toInt * b1.toInt - a1.toInt * b2.toInt) := by rw [zLm (by rw [two, y1]; omega) (by rw [two, y1]; omega), two, y1]
  refine ⟨n1, by rw [zLm (by rw [two, n1]; omega) (by rw [two, n1]; omega), two, n1], by rw [zLa (by rw [x2, n1]; omega) (by rw [x2, n1]; omega), x2, n1], by rw [zLa (by rw [y2, n1]; omega) (by rw [y2, n1]; omega), y2, n1]⟩
theorem zL_n0 {x : Int64} (h : x.toInt ≠ 0) : x ≠ 0 := fun e => h (by rw [e]; rfl)
theorem zL_I {x : Int64} {v : Int} (h : x.toInt = v) (h1 : -2147483648 ≤ v) (h2 : v ≤ 2147483647) : x.toInt32 = Int32.ofInt v := by
  rw [← Int32.toInt_inj, zL_32 (by omega) (by omega), zI_v h1 h2, h]
