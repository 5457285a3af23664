/-! THE REFERENCE'S ARITHMETIC -/
abbrev zE2 : Type := Int32 × Int32
def zplus (r : Nat) (a f b : zE2) : Option zE2 := match r with
  | 0 => bif zin (a.1.toInt64 + f.1.toInt64 * b.1.toInt64) (-1000000000) 1000000000 then some ((a.1.toInt64 + f.1.toInt64 * b.1.toInt64).toInt32, 0) else none
  | 1 => bif zin (a.1.toInt64 + f.1.toInt64 * b.1.toInt64 - f.2.toInt64 * b.2.toInt64) (-30000) 30000 && zin (a.2.toInt64 + f.1.toInt64 * b.2.toInt64 + f.2.toInt64 * b.1.toInt64) (-30000) 30000 then
      some ((a.1.toInt64 + f.1.toInt64 * b.1.toInt64 - f.2.toInt64 * b.2.toInt64).toInt32, (a.2.toInt64 + f.1.toInt64 * b.2.toInt64 + f.2.toInt64 * b.1.toInt64).toInt32) else none
  | q => (zplP q a.1.toNatClampNeg f.1.toNatClampNeg b.1.toNatClampNeg).map (fun v => (Int32.ofNat v, 0))
def zok (r : Nat) (e : zE2) : Prop := match r with
  | 0 => -1000000000 ≤ e.1.toInt ∧ e.1.toInt ≤ 1000000000 ∧ e.2 = 0
  | 1 => -30000 ≤ e.1.toInt ∧ e.1.toInt ≤ 30000 ∧ -30000 ≤ e.2.toInt ∧ e.2.toInt ≤ 30000
  | q => ∃ v, v < q ^ 8 ∧ e = (Int32.ofNat v, 0)
theorem zok_p {q : Nat} (hq : zprm q) {e : zE2} : zok q e ↔ ∃ v, v < q ^ 8 ∧ e = (Int32.ofNat v, 0) := by
  rcases hq with rfl | rfl | rfl | rfl <;> exact Iff.rfl
theorem zpw_lt {q : Nat} (hq : zprm q) : q ^ 8 ≤ 5764801 := by
  rcases hq with rfl | rfl | rfl | rfl <;> decide
theorem zplus_p {q : Nat} (hq : zprm q) {a f b : Nat} (ha : a < q ^ 8) (hf : f < q ^ 8) (hb : b < q ^ 8) : zplus q (Int32.ofNat a, 0) (Int32.ofNat f, 0) (Int32.ofNat b, 0) = (zplP q a f b).map (fun v => (Int32.ofNat v, 0)) := by
  have h := zpw_lt hq
  have e : ∀ {x : Nat}, x < q ^ 8 → (Int32.ofNat x).toNatClampNeg = x := fun hx => zN_cl (show _ < 2147483648 by omega) (Nat.le_refl _)
  rcases hq with rfl | rfl | rfl | rfl <;> (simp only [zplus, e ha, e hf, e hb])
/-- what the reference holds behind an operation: bad, rf, rs -/
def zres (bad : Bool) (o : Option zE2) : Bool × Int32 × Int32 := bif bad then (true, 0, 0) else match o with
  | none => (true, 0, 0)
  | some v => (false, v.1, v.2)
def zpre (n : Nat) : Int32 := Int32.ofNat n + Int32.ofInt (-1)
theorem zpre_s (n : Nat) : zpre (n + 1) = Int32.ofNat n := by
  unfold zpre
  rw [show Int32.ofInt (-1) = -1 from rfl, Int32.ofNat_add, show Int32.ofNat 1 = 1 from rfl, Int32.add_assoc, show (1 : Int32) + -1 = 0 from rfl, Int32.add_zero]
theorem zpre_0 : zpre 0 = -1 := rfl
theorem zN_inj {a b : Nat} (ha : a < 2147483648) (hb : b < 2147483648) (h : Int32.ofNat a = Int32.ofNat b) : a = b := by
  have := congrArg Int32.toInt h
  rw [zN_i ha, zN_i hb] at this
  omega
theorem zN_ge0 {a : Nat} (ha : a < 2147483648) : ¬ Int32.ofNat a < 0 := by
  rw [Int32.lt_iff_toInt_lt, zN_i ha, Int32.toInt_zero]; omega
theorem zN_0 {a : Nat} (ha : a < 2147483648) : Int32.ofNat a = 0 ↔ a = 0 := ⟨fun h => zN_inj ha (by decide) h, fun h => by subst h; rfl⟩
def zdI (F : Nat → Int32) : Nat → Nat
  | 0 => 0
  | n + 1 => if F n = 0 then zdI F n else n + 1
theorem zdI_N {A : Nat → Int32} {F : Nat → Nat} {n : Nat} (h : ∀ k, k < n → A k = Int32.ofNat (F k)) (hl : ∀ k, k < n → F k < 2147483648) : zdI A n = zdn F n := by
  induction n with
  | zero => rfl
  | succ n ih =>
    simp only [zdI, zdn]
    rw [h n (by omega), ih (fun k hk => h k (by omega)) (fun k hk => hl k (by omega))]
    by_cases h0 : F n = 0
    · rw [if_pos h0, if_pos ((zN_0 (hl n (by omega))).mpr h0)]
    · rw [if_neg h0, if_neg (fun e => h0 ((zN_0 (hl n (by omega))).mp e))]
theorem l159a {K : zKt} {code rf rs pr pn : Int32} {bad : Bool} {J : zJt} {m pb pc vf vs : Nat → Int32} {B : zBt} {w : Nat → Int64} {p : Nat × Nat} {Q : zR → zH → Prop} {q v : Nat} (hq : 0 < q) (hq2 : q < 2147483648) (hv : v < 2147483648) (H : ∀ pa', (∀ k, k < 8 → pa' k = Int32.ofNat (zcf q v k)) → Q (.inl none) (zh K (code, rf, rs, bad, pr, pn, J) (m, pa', pb, pc, vf, vs, B) w)) : ∀ (n x : Nat) (pa : Nat → Int32), x + n = 8 → (∀ k, k < x → pa k = Int32.ofNat (zcf q v k)) →
    zW zm_159 5 [some (.int (Int32.ofNat q)), none, some (.ref 77), some (.int (Int32.ofNat (v / q ^ x))), some (.int (Int32.ofNat x))] [] p (zh K (code, rf, rs, bad, pr, pn, J) (m, pa, pb, pc, vf, vs, B) w) Q := by
  intro n
  induction n with
  | zero => intro x F hx hF; exact b159a_5 ⟨by omega, fun _ => H F (fun k hk => hF k (by omega)), fun h => by omega⟩
  | succ n ih =>
    intro x F hx hF
    refine b159a_5 ⟨by omega, fun h => by omega, fun h => ⟨hq, hq2, Nat.lt_of_le_of_lt (Nat.div_le_self _ _) hv, by omega, ?_⟩⟩
    rw [Nat.div_div_eq_div_mul, ← Nat.pow_succ]
    refine ih (x + 1) _ (by omega) (fun k hk => ?_)
    by_cases hkx : k = x
    · subst hkx; rw [va_up_self]; rfl
    · rw [va_up_ne _ _ hkx]; exact hF k (by omega)
theorem s159a {K : zKt} {code rf rs pr pn : Int32} {bad : Bool} {J : zJt} {m pa pb pc vf vs : Nat → Int32} {B : zBt} {w : Nat → Int64} {p : Nat × Nat} {Q : zR → zH → Prop} {q v : Nat} (hq : 0 < q) (hq2 : q < 2147483648) (hv : v < 2147483648) (H : ∀ pa', (∀ k, k < 8 → pa' k = Int32.ofNat (zcf q v k)) → Q (.inl none) (zh K (code, rf, rs, bad, pr, pn, J) (m, pa', pb, pc, vf, vs, B) w)) : zT zm_159 [.int (Int32.ofNat q), .int (Int32.ofNat v), .ref 77] p (zh K (code, rf, rs, bad, pr, pn, J) (m, pa, pb, pc, vf, vs, B) w) Q := by
  have h := l159a (p := p) hq hq2 hv H 8 0 pa rfl (fun k hk => by omega)
  rw [Nat.pow_zero, Nat.div_one] at h
  exact b159a h
theorem l159b {K : zKt} {code rf rs pr pn : Int32} {bad : Bool} {J : zJt} {m pa pc vf vs : Nat → Int32} {B : zBt} {w : Nat → Int64} {p : Nat × Nat} {Q : zR → zH → Prop} {q v : Nat} (hq : 0 < q) (hq2 : q < 2147483648) (hv : v < 2147483648) (H : ∀ pb', (∀ k, k < 8 → pb' k = Int32.ofNat (zcf q v k)) → Q (.inl none) (zh K (code, rf, rs, bad, pr, pn, J) (m, pa, pb', pc, vf, vs, B) w)) : ∀ (n x : Nat) (pb : Nat → Int32), x + n = 8 → (∀ k, k < x → pb k = Int32.ofNat (zcf q v k)) →
    zW zm_159 5 [some (.int (Int32.ofNat q)), none, some (.ref 78), some (.int (Int32.ofNat (v / q ^ x))), some (.int (Int32.ofNat x))] [] p (zh K (code, rf, rs, bad, pr, pn, J) (m, pa, pb, pc, vf, vs, B) w) Q := by
  intro n
  induction n with
  | zero => intro x F hx hF; exact b159b_5 ⟨by omega, fun _ => H F (fun k hk => hF k (by omega)), fun h => by omega⟩
  | succ n ih =>
    intro x F hx hF
    refine b159b_5 ⟨by omega, fun h => by omega, fun h => ⟨hq, hq2, Nat.lt_of_le_of_lt (Nat.div_le_self _ _) hv, by omega, ?_⟩⟩
    rw [Nat.div_div_eq_div_mul, ← Nat.pow_succ]
    refine ih (x + 1) _ (by omega) (fun k hk => ?_)
    by_cases hkx : k = x
    · subst hkx; rw [va_up_self]; rfl
    · rw [va_up_ne _ _ hkx]; exact hF k (by omega)
theorem s159b {K : zKt} {code rf rs pr pn : Int32} {bad : Bool} {J : zJt} {m pa pb pc vf vs : Nat → Int32} {B : zBt} {w : Nat → Int64} {p : Nat × Nat} {Q : zR → zH → Prop} {q v : Nat} (hq : 0 < q) (hq2 : q < 2147483648) (hv : v < 2147483648) (H : ∀ pb', (∀ k, k < 8 → pb' k = Int32.ofNat (zcf q v k)) → Q (.inl none) (zh K (code, rf, rs, bad, pr, pn, J) (m, pa, pb', pc, vf, vs, B) w)) : zT zm_159 [.int (Int32.ofNat q), .int (Int32.ofNat v), .ref 78] p (zh K (code, rf, rs, bad, pr, pn, J) (m, pa, pb, pc, vf, vs, B) w) Q := by
  have h := l159b (p := p) hq hq2 hv H 8 0 pb rfl (fun k hk => by omega)
  rw [Nat.pow_zero, Nat.div_one] at h
  exact b159b h
theorem l161a {K : zKt} {code rf rs pr pn : Int32} {bad : Bool} {J : zJt} {m pa pb pc vf vs : Nat → Int32} {B : zBt} {w : Nat → Int64} {p : Nat × Nat} {Q : zR → zH → Prop} : ∀ (n : Nat), n ≤ 8 → Q (.inl (some (.int (zpre (zdI pa n))))) (zh K (code, rf, rs, bad, pr, pn, J) (m, pa, pb, pc, vf, vs, B) w) → zW zm_161 2 [some (.ref 77), none, some (.int (zpre n))] [] p (zh K (code, rf, rs, bad, pr, pn, J) (m, pa, pb, pc, vf, vs, B) w) Q := by
  intro n
  induction n with
  | zero => intro _ H; exact b161a_2 ⟨fun _ => H, fun h => absurd (show zpre 0 < 0 by decide) h⟩
  | succ n ih =>
    intro hn H
    rw [zpre_s]
    refine b161a_2 ⟨fun h => absurd h (zN_ge0 (by omega)), fun h k hk e => ?_⟩
    have e := zN_inj (by omega) hk e
    subst e
    simp only [zdI] at H
    refine ⟨by omega, fun h0 => ?_, fun h0 => ?_⟩
    · rw [if_neg h0, zpre_s] at H; exact H
    · rw [if_pos h0] at H; exact ih (by omega) H
theorem s161a {K : zKt} {code rf rs pr pn : Int32} {bad : Bool} {J : zJt} {m pa pb pc vf vs : Nat → Int32} {B : zBt} {w : Nat → Int64} {p : Nat × Nat} {Q : zR → zH → Prop} {n : Nat} (hn : n < 8) (H : Q (.inl (some (.int (zpre (zdI pa (n + 1)))))) (zh K (code, rf, rs, bad, pr, pn, J) (m, pa, pb, pc, vf, vs, B) w)) : zT zm_161 [.ref 77, .int (Int32.ofNat n)] p (zh K (code, rf, rs, bad, pr, pn, J) (m, pa, pb, pc, vf, vs, B) w) Q := by
  have h := l161a (p := p) (n + 1) hn H
  rw [zpre_s] at h
  exact b161a h
theorem l161b {K : zKt} {code rf rs pr pn : Int32} {bad : Bool} {J : zJt} {m pa pb pc vf vs : Nat → Int32} {B : zBt} {w : Nat → Int64} {p : Nat × Nat} {Q : zR → zH → Prop} : ∀ (n : Nat), n ≤ 8 → Q (.inl (some (.int (zpre (zdI pb n))))) (zh K (code, rf, rs, bad, pr, pn, J) (m, pa, pb, pc, vf, vs, B) w) → zW zm_161 2 [some (.ref 78), none, some (.int (zpre n))] [] p (zh K (code, rf, rs, bad, pr, pn, J) (m, pa, pb, pc, vf, vs, B) w) Q := by
  intro n
  induction n with
  | zero => intro _ H; exact b161b_2 ⟨fun _ => H, fun h => absurd (show zpre 0 < 0 by decide) h⟩
  | succ n ih =>
    intro hn H
    rw [zpre_s]
    refine b161b_2 ⟨fun h => absurd h (zN_ge0 (by omega)), fun h k hk e => ?_⟩
    have e := zN_inj (by omega) hk e
    subst e
    simp only [zdI] at H
    refine ⟨by omega, fun h0 => ?_, fun h0 => ?_⟩
    · rw [if_neg h0, zpre_s] at H; exact H
    · rw [if_pos h0] at H; exact ih (by omega) H
theorem s161b {K : zKt} {code rf rs pr pn : Int32} {bad : Bool} {J : zJt} {m pa pb pc vf vs : Nat → Int32} {B : zBt} {w : Nat → Int64} {p : Nat × Nat} {Q : zR → zH → Prop} {n : Nat} (hn : n < 8) (H : Q (.inl (some (.int (zpre (zdI pb (n + 1)))))) (zh K (code, rf, rs, bad, pr, pn, J) (m, pa, pb, pc, vf, vs, B) w)) : zT zm_161 [.ref 78, .int (Int32.ofNat n)] p (zh K (code, rf, rs, bad, pr, pn, J) (m, pa, pb, pc, vf, vs, B) w) Q := by
  have h := l161b (p := p) (n + 1) hn H
  rw [zpre_s] at h
  exact b161b h
theorem l161c {K : zKt} {code rf rs pr pn : Int32} {bad : Bool} {J : zJt} {m pa pb pc vf vs : Nat → Int32} {B : zBt} {w : Nat → Int64} {p : Nat × Nat} {Q : zR → zH → Prop} : ∀ (n : Nat), n ≤ 16 → Q (.inl (some (.int (zpre (zdI pc n))))) (zh K (code, rf, rs, bad, pr, pn, J) (m, pa, pb, pc, vf, vs, B) w) → zW zm_161 2 [some (.ref 79), none, some (.int (zpre n))] [] p (zh K (code, rf, rs, bad, pr, pn, J) (m, pa, pb, pc, vf, vs, B) w) Q := by
  intro n
  induction n with
  | zero => intro _ H; exact b161c_2 ⟨fun _ => H, fun h => absurd (show zpre 0 < 0 by decide) h⟩
  | succ n ih =>
    intro hn H
    rw [zpre_s]
    refine b161c_2 ⟨fun h => absurd h (zN_ge0 (by omega)), fun h k hk e => ?_⟩
    have e := zN_inj (by omega) hk e
    subst e
    simp only [zdI] at H
    refine ⟨by omega, fun h0 => ?_, fun h0 => ?_⟩
    · rw [if_neg h0, zpre_s] at H; exact H
    · rw [if_pos h0] at H; exact ih (by omega) H
theorem s161c {K : zKt} {code rf rs pr pn : Int32} {bad : Bool} {J : zJt} {m pa pb pc vf vs : Nat → Int32} {B : zBt} {w : Nat → Int64} {p : Nat × Nat} {Q : zR → zH → Prop} {n : Nat} (hn : n < 16) (H : Q (.inl (some (.int (zpre (zdI pc (n + 1)))))) (zh K (code, rf, rs, bad, pr, pn, J) (m, pa, pb, pc, vf, vs, B) w)) : zT zm_161 [.ref 79, .int (Int32.ofNat n)] p (zh K (code, rf, rs, bad, pr, pn, J) (m, pa, pb, pc, vf, vs, B) w) Q := by
  have h := l161c (p := p) (n + 1) hn H
  rw [zpre_s] at h
  exact b161c h
theorem l194 {K : zKt} {code rf rs pr pn : Int32} {bad : Bool} {J : zJt} {m pa pb pc vf vs : Nat → Int32} {B : zBt} {w : Nat → Int64} {p : Nat × Nat} {Q : zR → zH → Prop} {q v : Nat} (hq : zprm q) (h0 : 0 < v) (hv : v < q) (H : Q (.inl (some (.int (Int32.ofNat (zivP q v))))) (zh K (code, rf, rs, bad, pr, pn, J) (m, pa, pb, pc, vf, vs, B) w)) : ∀ (n x : Nat), x + n = zivP q v → 1 ≤ x → zW zm_194 2 [some (.int (Int32.ofNat v)), some (.int (Int32.ofNat q)), some (.int (Int32.ofNat x))] [] p (zh K (code, rf, rs, bad, pr, pn, J) (m, pa, pb, pc, vf, vs, B) w) Q := by
  obtain ⟨g1, g2, g3, g4⟩ := zivP_ok hq h0 hv
  have hq7 := zprm_lt hq
  intro n
  induction n with
  | zero =>
    intro x hx h1
    have hb : v * x < 2147483648 := Nat.lt_of_le_of_lt (Nat.mul_le_mul (Nat.le_of_lt hv) (show x ≤ 7 by omega)) (by omega)
    refine b194_2 ⟨by omega, by omega, fun h => by omega, fun h => ⟨by omega, hb, Nat.lt_of_le_of_lt (Nat.mod_le _ _) hb, fun h2 => ?_, fun h2 => ?_⟩⟩
    · rw [← hx] at H; exact H
    · rw [← hx] at g3; exact absurd g3 h2
  | succ n ih =>
    intro x hx h1
    have hb : v * x < 2147483648 := Nat.lt_of_le_of_lt (Nat.mul_le_mul (Nat.le_of_lt hv) (show x ≤ 7 by omega)) (by omega)
    refine b194_2 ⟨by omega, by omega, fun h => by omega, fun h => ⟨by omega, hb, Nat.lt_of_le_of_lt (Nat.mod_le _ _) hb, fun h2 => absurd h2 (g4 x h1 (by omega)), fun h2 => ih (x + 1) (by omega) (by omega)⟩⟩
theorem s194 {K : zKt} {code rf rs pr pn : Int32} {bad : Bool} {J : zJt} {m pa pb pc vf vs : Nat → Int32} {B : zBt} {w : Nat → Int64} {p : Nat × Nat} {Q : zR → zH → Prop} {q v : Nat} (hq : zprm q) (h0 : 0 < v) (hv : v < q) (H : Q (.inl (some (.int (Int32.ofNat (zivP q v))))) (zh K (code, rf, rs, bad, pr, pn, J) (m, pa, pb, pc, vf, vs, B) w)) : zT zm_194 [.int (Int32.ofNat v), .int (Int32.ofNat q)] p (zh K (code, rf, rs, bad, pr, pn, J) (m, pa, pb, pc, vf, vs, B) w) Q := by
  obtain ⟨g1, g2, g3, g4⟩ := zivP_ok hq h0 hv
  exact b194 (l194 hq h0 hv H (zivP q v - 1) 1 (by omega) (by omega))
theorem l160 {K : zKt} {code rf rs pr pn : Int32} {bad : Bool} {J : zJt} {m pa pb pc vf vs : Nat → Int32} {B : zBt} {w : Nat → Int64} {p : Nat × Nat} {Q : zR → zH → Prop} {q : Nat} {F : Nat → Nat} (hF : ∀ k, k < 8 → pc k = Int32.ofNat (F k)) (hl : ∀ k, k < 8 → F k < q) (H : Q (.inl none) (zh K (code, (bif bad then 0 else Int32.ofNat (zho q F 8)), 0, bad, pr, pn, J) (m, pa, pb, pc, vf, vs, B) w)) :
    ∀ n, n ≤ 8 → zW zm_160 35 [some (.ref 75), some (.int (Int32.ofNat q)), some (.int (Int32.ofNat (zho q F (8 - n)))), some (.int (zpre n))] [] p (zh K (code, rf, rs, bad, pr, pn, J) (m, pa, pb, pc, vf, vs, B) w) Q := by
  intro n
  induction n with
  | zero =>
    intro _
    refine b160_35 ⟨fun _ => ⟨fun h => ?_, fun h => ?_⟩, fun h => absurd (show zpre 0 < 0 by decide) h⟩
    · subst h; exact H
    · subst h; exact H
  | succ n ih =>
    intro hn
    rw [zpre_s]
    refine b160_35 ⟨fun h => absurd h (zN_ge0 (by omega)), fun h k hk e => ?_⟩
    have e := zN_inj (by omega) hk e
    subst e
    refine ⟨by omega, ?_⟩
    rw [hF n (by omega), zN_a (zN_m rfl rfl) rfl]
    have e : q * zho q F (8 - (n + 1)) + F n = zho q F (8 - n) := by
      rw [show 8 - n = (8 - (n + 1)) + 1 by omega]
      simp only [zho]
      rw [show 7 - (8 - (n + 1)) = n by omega, Nat.mod_eq_of_lt (hl n (by omega)), Nat.mul_comm]
    rw [e]
    exact ih (by omega)
theorem s160 {K : zKt} {code rf rs pr pn : Int32} {bad : Bool} {J : zJt} {m pa pb pc vf vs : Nat → Int32} {B : zBt} {w : Nat → Int64} {p : Nat × Nat} {Q : zR → zH → Prop} {q : Nat} {F : Nat → Nat} (hq : q < 2147483648) (hF : ∀ k, k < 16 → pc k = Int32.ofNat (F k)) (hl : ∀ k, k < 16 → F k < q) (H : Q (.inl none) (zh K (code, (bif bad || decide (8 < zdn F 16) then 0 else Int32.ofNat (zho q F 8)), 0, (bad || decide (8 < zdn F 16)), pr, pn, J) (m, pa, pb, pc, vf, vs, B) w)) :
    zT zm_160 [.ref 75, .int (Int32.ofNat q)] p (zh K (code, rf, rs, bad, pr, pn, J) (m, pa, pb, pc, vf, vs, B) w) Q := by
  have go : ∀ bd, bd = (bad || decide (8 < zdn F 16)) → zW zm_160 35 [some (.ref 75), some (.int (Int32.ofNat q)), some (.int (0 : Int32)), some (.int (7 : Int32))] [] p (zh K (code, rf, rs, bd, pr, pn, J) (m, pa, pb, pc, vf, vs, B) w) Q := by
    intro bd e
    subst e
    exact l160 (fun k hk => hF k (by omega)) (fun k hk => hl k (by omega)) H 8 (Nat.le_refl _)
  refine b160 ⟨fun h => go true (by rw [h]; rfl), fun h => ?_⟩
  refine s161c (n := 15) (by decide) ?_
  rw [zdI_N hF (fun k hk => Nat.lt_trans (hl k hk) hq)]
  have hd := zdn_le F 16
  have hz : zpre (zdn F 16) ≤ 7 ↔ ¬ 8 < zdn F 16 := by
    rcases hn : zdn F 16 with _ | n
    · exact ⟨fun _ => by omega, fun _ => by decide⟩
    · rw [zpre_s, Int32.le_iff_toInt_le, zN_i (by omega), show Int32.toInt 7 = 7 from rfl]; omega
  refine b160_17 ⟨fun h2 => go false ?_, fun h2 => go true ?_⟩
  · rw [h, decide_eq_false (hz.mp h2)]; rfl
  · rw [h, decide_eq_true (by rw [hz] at h2; omega)]; rfl
