/-! negatives, quotients, sizes, normalizers: the middle, and the reference's way to it -/
def zneg (r : Nat) (a : zE2) : zE2 := match r with
  | 0 => (-a.1, 0)
  | 1 => (-a.1, -a.2)
  | q => (Int32.ofNat (zngP q a.1.toNatClampNeg), 0)
def zq0 (a b : Int) : Int := if 0 < b then a / b else -(a / (-b))
def zq1n (b : zE2) : Int := b.1.toInt * b.1.toInt + b.2.toInt * b.2.toInt
def zq1x (a b : zE2) : Int := (2 * (a.1.toInt * b.1.toInt + a.2.toInt * b.2.toInt) + zq1n b) / (2 * zq1n b)
def zq1y (a b : zE2) : Int := (2 * (a.2.toInt * b.1.toInt - a.1.toInt * b.2.toInt) + zq1n b) / (2 * zq1n b)
def zquo (r : Nat) (a b : zE2) : zE2 := match r with
  | 0 => (Int32.ofInt (zq0 a.1.toInt b.1.toInt), 0)
  | 1 => (Int32.ofInt (zq1x a b), Int32.ofInt (zq1y a b))
  | q => (Int32.ofNat (zqP q a.1.toNatClampNeg b.1.toNatClampNeg), 0)
def zszP (q v : Nat) : Int64 := (1 : Int64) + (zpre (zdn (zcf q v) 8)).toInt64
def zsz (r : Nat) (a : zE2) : Int64 := match r with
  | 0 => bif decide (0 ≤ a.1) then a.1.toInt64 else -a.1.toInt64
  | 1 => a.1.toInt64 * a.1.toInt64 + a.2.toInt64 * a.2.toInt64
  | q => zszP q a.1.toNatClampNeg
def znrm (r : Nat) (a : zE2) : zE2 := match r with
  | 0 => (bif decide (0 ≤ a.1) then 1 else -1, 0)
  | 1 => if a.1 ≤ 0 ∧ 0 < a.2 then (0, -1) else if a.1 < 0 then (-1, 0) else if a.2 < 0 then (0, 1) else (1, 0)
  | q => if zdn (zcf q a.1.toNatClampNeg) 8 = 0 then (1, 0) else (Int32.ofNat (zivP q (zcf q a.1.toNatClampNeg (zdn (zcf q a.1.toNatClampNeg) 8 - 1))), 0)
theorem zcl_p {q : Nat} (hq : zprm q) {v : Nat} (hv : v < q ^ 8) : (Int32.ofNat v).toNatClampNeg = v := zN_cl (show v < 2147483648 by have := zpw_lt hq; omega) (Nat.le_refl _)
theorem zneg_p {q : Nat} (hq : zprm q) {a : Nat} (ha : a < q ^ 8) : zneg q (Int32.ofNat a, 0) = (Int32.ofNat (zngP q a), 0) := by
  have e := zcl_p hq ha
  rcases hq with rfl | rfl | rfl | rfl <;> simp only [zneg, e]
theorem zquo_p {q : Nat} (hq : zprm q) {a b : Nat} (ha : a < q ^ 8) (hb : b < q ^ 8) : zquo q (Int32.ofNat a, 0) (Int32.ofNat b, 0) = (Int32.ofNat (zqP q a b), 0) := by
  have e := zcl_p hq ha
  have e2 := zcl_p hq hb
  rcases hq with rfl | rfl | rfl | rfl <;> simp only [zquo, e, e2]
theorem zsz_p {q : Nat} (hq : zprm q) {a : Nat} (ha : a < q ^ 8) : zsz q (Int32.ofNat a, 0) = zszP q a := by
  have e := zcl_p hq ha
  rcases hq with rfl | rfl | rfl | rfl <;> exact congrArg (zszP _) e
theorem znrm_p {q : Nat} (hq : zprm q) {a : Nat} (ha : a < q ^ 8) : znrm q (Int32.ofNat a, 0) = if zdn (zcf q a) 8 = 0 then (1, 0) else (Int32.ofNat (zivP q (zcf q a (zdn (zcf q a) 8 - 1))), 0) := by
  have e := zcl_p hq ha
  rcases hq with rfl | rfl | rfl | rfl <;> simp only [znrm, e]
theorem zok_0 {r : Nat} (hr : zrg r) : zok r (0, 0) := by
  rcases hr with rfl | rfl | rfl | rfl | rfl | rfl
  · exact ⟨by decide, by decide, rfl⟩
  · exact ⟨by decide, by decide, by decide, by decide⟩
  all_goals exact ⟨0, by decide, rfl⟩
theorem zok_1 {r : Nat} (hr : zrg r) : zok r (1, 0) := by
  rcases hr with rfl | rfl | rfl | rfl | rfl | rfl
  · exact ⟨by decide, by decide, rfl⟩
  · exact ⟨by decide, by decide, by decide, by decide⟩
  all_goals exact ⟨1, by decide, rfl⟩
theorem zok_m1 {r : Nat} (hr : zrg r) : zok r (zm1 (Int32.ofNat r), 0) := by
  rcases hr with rfl | rfl | rfl | rfl | rfl | rfl
  · exact ⟨by decide, by decide, rfl⟩
  · exact ⟨by decide, by decide, by decide, by decide⟩
  · exact ⟨1, by decide, rfl⟩
  · exact ⟨2, by decide, rfl⟩
  · exact ⟨4, by decide, rfl⟩
  · exact ⟨6, by decide, rfl⟩
theorem zm1_p {q : Nat} (hq : zprm q) : zm1 (Int32.ofNat q) = Int32.ofNat (q - 1) := by
  rcases hq with rfl | rfl | rfl | rfl <;> decide
theorem zng_m {q c : Nat} (hq : zprm q) (hc : c < q) : (q - 1) * c % q = (q - c) % q := by
  have h : ∀ q, (q = 2 ∨ q = 3 ∨ q = 5 ∨ q = 7) → ∀ c, c < q → (q - 1) * c % q = (q - c) % q := by
    intro q hq
    rcases hq with rfl | rfl | rfl | rfl <;> decide
  exact h q hq c hc
/-- a product with a constant -/
theorem zcs_c {q c a k : Nat} (hq : zprm q) (hc : c < q) : zcs (zcf q c) (zcf q a) 8 k = if k < 8 then c * zcf q a k else 0 := by
  have hq7 := zprm_lt hq
  have h0 : zcf q c 0 = c := by unfold zcf; rw [Nat.pow_zero, Nat.div_one, Nat.mod_eq_of_lt hc]
  have hi : ∀ i, 1 ≤ i → zcf q c i = 0 := fun i hi => by
    unfold zcf
    rw [Nat.div_eq_of_lt (Nat.lt_of_lt_of_le hc (by calc q = q ^ 1 := (Nat.pow_one q).symm
      _ ≤ q ^ i := Nat.pow_le_pow_right (by omega) hi)), Nat.zero_mod]
  by_cases hk : k < 8
  · rw [if_pos hk, zcs_one (a := 0) (by decide) (Nat.zero_le _) (by omega) (fun i _ h1 _ _ => by rw [hi i (by omega), Nat.zero_mul]), h0, Nat.sub_zero]
  · rw [if_neg hk]
    refine zcs_zero (fun i _ _ h2 => ?_)
    rw [hi i (by omega), Nat.zero_mul]
theorem zplP_neg {q a : Nat} (hq : zprm q) (ha : a < q ^ 8) : zplP q 0 (q - 1) a = some (zngP q a) := by
  have hq7 := zprm_lt hq
  have hC : ∀ k, zcC q 0 (q - 1) a k = if k < 8 then (q - 1) * zcf q a k % q else 0 := by
    intro k
    unfold zcC
    rw [zcs_c hq (by omega), zcf_0]
    by_cases hk : k < 8
    · rw [if_pos hk, if_pos hk, if_pos hk, Nat.add_zero, Nat.mod_mod]
    · rw [if_neg hk, if_neg hk, if_neg hk]; simp
  unfold zplP
  rw [if_neg]
  · congr 1
    unfold zngP
    refine zho_congr (Nat.le_refl _) (fun k hk => ?_)
    rw [hC k, if_pos hk, Nat.mod_mod, zng_m hq (zcf_lt (by omega) a k)]
  · intro h8
    have := zdn_at (F := zcC q 0 (q - 1) a) (n := 16) (by omega)
    rw [hC, if_neg (by omega)] at this
    exact this rfl
theorem zplus_neg {r : Nat} (hr : zrg r) {f s : Int32} (ha : zok r (f, s)) : zplus r (0, 0) (zm1 (Int32.ofNat r), 0) (f, s) = some (zneg r (f, s)) := by
  have z0 : (0 : Int32).toInt64.toInt = 0 := by decide
  have zm : (-1 : Int32).toInt64.toInt = -1 := by decide
  by_cases h0 : r = 0
  · subst h0
    obtain ⟨h1, h2, h3⟩ := ha
    dsimp only at h1 h2 h3
    have ef : f.toInt64.toInt = f.toInt := Int32.toInt_toInt64 f
    have e1 : ((-1 : Int32).toInt64 * f.toInt64).toInt = -f.toInt := by rw [zLm (by rw [zm, ef]; omega) (by rw [zm, ef]; omega), zm, ef]; omega
    have e2 : ((0 : Int32).toInt64 + (-1 : Int32).toInt64 * f.toInt64).toInt = -f.toInt := by rw [zLa (by rw [z0, e1]; omega) (by rw [z0, e1]; omega), z0, e1]; omega
    have e3 : zin ((0 : Int32).toInt64 + (-1 : Int32).toInt64 * f.toInt64) (-1000000000) 1000000000 = true := by
      rw [zin_iff, e2, show Int64.toInt (-1000000000) = -1000000000 from rfl, show Int64.toInt 1000000000 = 1000000000 from rfl]; omega
    have e4 : ((0 : Int32).toInt64 + (-1 : Int32).toInt64 * f.toInt64).toInt32 = -f := by
      rw [← Int32.toInt_inj, zL_32 (by rw [e2]; omega) (by rw [e2]; omega), e2, zIn (by omega)]
    show (bif zin ((0 : Int32).toInt64 + (-1 : Int32).toInt64 * f.toInt64) (-1000000000) 1000000000 then some (((0 : Int32).toInt64 + (-1 : Int32).toInt64 * f.toInt64).toInt32, (0 : Int32)) else none) = some (-f, 0)
    rw [e3, e4]; rfl
  · by_cases h1 : r = 1
    · subst h1
      obtain ⟨h1, h2, h3, h4⟩ := ha
      dsimp only at h1 h2 h3 h4
      have g : ∀ x y : Int32, -30000 ≤ x.toInt → x.toInt ≤ 30000 → -30000 ≤ y.toInt → y.toInt ≤ 30000 → ((0 : Int32).toInt64 + (-1 : Int32).toInt64 * x.toInt64).toInt = -x.toInt ∧ ((0 : Int32).toInt64 * y.toInt64).toInt = 0 := by
        intro x y a1 a2 a3 a4
        have ex : x.toInt64.toInt = x.toInt := Int32.toInt_toInt64 x
        have ey : y.toInt64.toInt = y.toInt := Int32.toInt_toInt64 y
        have e1 : ((-1 : Int32).toInt64 * x.toInt64).toInt = -x.toInt := by rw [zLm (by rw [zm, ex]; omega) (by rw [zm, ex]; omega), zm, ex]; omega
        exact ⟨by rw [zLa (by rw [z0, e1]; omega) (by rw [z0, e1]; omega), z0, e1]; omega, by rw [zLm (by rw [z0, ey]; omega) (by rw [z0, ey]; omega), z0, ey]; omega⟩
      obtain ⟨p1, p2⟩ := g f s h1 h2 h3 h4
      obtain ⟨p3, p4⟩ := g s f h3 h4 h1 h2
      have e1 : ((0 : Int32).toInt64 + (-1 : Int32).toInt64 * f.toInt64 - (0 : Int32).toInt64 * s.toInt64).toInt = -f.toInt := by rw [zLs (by rw [p1, p2]; omega) (by rw [p1, p2]; omega), p1, p2]; omega
      have e2 : ((0 : Int32).toInt64 + (-1 : Int32).toInt64 * s.toInt64 + (0 : Int32).toInt64 * f.toInt64).toInt = -s.toInt := by rw [zLa (by rw [p3, p4]; omega) (by rw [p3, p4]; omega), p3, p4]; omega
      have k : ∀ {z : Int64} {x : Int32}, z.toInt = -x.toInt → -30000 ≤ x.toInt → x.toInt ≤ 30000 → zin z (-30000) 30000 = true ∧ z.toInt32 = -x := by
        intro z x e a1 a2
        refine ⟨?_, ?_⟩
        · rw [zin_iff, e, show Int64.toInt (-30000) = -30000 from rfl, show Int64.toInt 30000 = 30000 from rfl]; omega
        · rw [← Int32.toInt_inj, zL_32 (by rw [e]; omega) (by rw [e]; omega), e, zIn (by omega)]
      obtain ⟨q1, q2⟩ := k e1 h1 h2
      obtain ⟨q3, q4⟩ := k e2 h3 h4
      show (bif zin ((0 : Int32).toInt64 + (-1 : Int32).toInt64 * f.toInt64 - (0 : Int32).toInt64 * s.toInt64) (-30000) 30000 && zin ((0 : Int32).toInt64 + (-1 : Int32).toInt64 * s.toInt64 + (0 : Int32).toInt64 * f.toInt64) (-30000) 30000 then some (((0 : Int32).toInt64 + (-1 : Int32).toInt64 * f.toInt64 - (0 : Int32).toInt64 * s.toInt64).toInt32, ((0 : Int32).toInt64 + (-1 : Int32).toInt64 * s.toInt64 + (0 : Int32).toInt64 * f.toInt64).toInt32) else none) = some (-f, -s)
      rw [q1, q2, q3, q4]; rfl
    · have hq : zprm r := by unfold zrg at hr; unfold zprm; omega
      have hq7 := zprm_lt hq
      obtain ⟨a, ha, ea⟩ := (zok_p hq).mp ha
      rw [ea, zm1_p hq, zneg_p hq ha]
      have := zplus_p hq (a := 0) (f := r - 1) (b := a) (Nat.pow_pos (by omega)) (Nat.lt_of_lt_of_le (show r - 1 < r ^ 1 by rw [Nat.pow_one]; omega) (Nat.pow_le_pow_right (by omega) (by decide))) ha
      rw [zplP_neg hq ha] at this
      exact this
theorem s195 {K : zKt} {code rf rs pr pn : Int32} {bad : Bool} {J : zJt} {m pa pb pc vf vs : Nat → Int32} {B : zBt} {w : Nat → Int64} {p : Nat × Nat} {Q : zR → zH → Prop} {r : Nat} {f s : Int32} (hr : zrg r) (ha : zok r (f, s)) (H : ∀ pa' pb' pc', Q (.inl none) (zh K (code, (zres bad (some (zneg r (f, s)))).2.1, (zres bad (some (zneg r (f, s)))).2.2, (zres bad (some (zneg r (f, s)))).1, pr, pn, J) (m, pa', pb', pc', vf, vs, B) w)) :
    zT zm_195 [.ref 75, .int (Int32.ofNat r), .int f, .int s] p (zh K (code, rf, rs, bad, pr, pn, J) (m, pa, pb, pc, vf, vs, B) w) Q := by
  refine b195 (s157 hr (zok_0 hr) (zok_m1 hr) ha (fun pa' pb' pc' => b195_14 ?_))
  rw [zplus_neg hr ha]
  exact H pa' pb' pc'
