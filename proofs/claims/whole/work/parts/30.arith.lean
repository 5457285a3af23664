/-! polynomials by their coefficients, as numbers -/
def zprm (p : Nat) : Prop := p = 2 ∨ p = 3 ∨ p = 5 ∨ p = 7
theorem zprm_lt {p : Nat} (h : zprm p) : 2 ≤ p ∧ p ≤ 7 := by unfold zprm at h; omega
theorem zprm_rg {p : Nat} (h : zprm p) : zrg p := by unfold zprm at h; unfold zrg; omega
def zcf (p v k : Nat) : Nat := v / p ^ k % p
theorem zcf_lt {p : Nat} (hp : 0 < p) (v k : Nat) : zcf p v k < p := Nat.mod_lt _ hp
theorem zcf_big {p v k : Nat} (hp : 1 < p) (hv : v < p ^ 8) (hk : 8 ≤ k) : zcf p v k = 0 := by
  unfold zcf
  rw [Nat.div_eq_of_lt (Nat.lt_of_lt_of_le hv (Nat.pow_le_pow_right (by omega) hk)), Nat.zero_mod]
theorem zcf_0 (p k : Nat) : zcf p 0 k = 0 := by simp [zcf]
/-- one more than the place of the last that isn't 0 -/
def zdn (F : Nat → Nat) : Nat → Nat
  | 0 => 0
  | n + 1 => if F n = 0 then zdn F n else n + 1
theorem zdn_le (F : Nat → Nat) (n : Nat) : zdn F n ≤ n := by
  induction n with
  | zero => exact Nat.le_refl _
  | succ n ih => simp only [zdn]; split <;> omega
theorem zdn_top {F : Nat → Nat} {n k : Nat} (h1 : zdn F n ≤ k) (h2 : k < n) : F k = 0 := by
  induction n with
  | zero => omega
  | succ n ih =>
    simp only [zdn] at h1
    split at h1
    · by_cases hk : k = n
      · subst hk; assumption
      · exact ih h1 (by omega)
    · omega
theorem zdn_at {F : Nat → Nat} {n : Nat} (h : 0 < zdn F n) : F (zdn F n - 1) ≠ 0 := by
  induction n with
  | zero => simp [zdn] at h
  | succ n ih =>
    simp only [zdn] at h ⊢
    split
    · rename_i h0; rw [if_pos h0] at h; exact ih h
    · rename_i h0; exact h0
theorem zdn_gt {F : Nat → Nat} {n k : Nat} (hk : k < n) (h : F k ≠ 0) : k < zdn F n := by
  rcases Nat.lt_or_ge k (zdn F n) with h1 | h1
  · exact h1
  · exact absurd (zdn_top h1 hk) h
theorem zdn_congr {F G : Nat → Nat} {n : Nat} (h : ∀ k, k < n → F k = G k) : zdn F n = zdn G n := by
  induction n with
  | zero => rfl
  | succ n ih =>
    simp only [zdn]
    rw [h n (by omega), ih (fun k hk => h k (by omega))]
/-- the number of the first n of the eight coefficients from above -/
def zho (p : Nat) (F : Nat → Nat) : Nat → Nat
  | 0 => 0
  | n + 1 => zho p F n * p + F (7 - n) % p
theorem zho_congr {p : Nat} {F G : Nat → Nat} {n : Nat} (hn : n ≤ 8) (h : ∀ k, k < 8 → F k % p = G k % p) : zho p F n = zho p G n := by
  induction n with
  | zero => rfl
  | succ n ih => simp only [zho]; rw [ih (by omega), h (7 - n) (by omega)]
theorem zho_lt {p : Nat} (hp : 0 < p) (F : Nat → Nat) (n : Nat) : zho p F n < p ^ n := by
  induction n with
  | zero => simp [zho]
  | succ n ih =>
    simp only [zho, Nat.pow_succ]
    have := Nat.mod_lt (F (7 - n)) hp
    calc zho p F n * p + F (7 - n) % p < zho p F n * p + p := by omega
      _ = (zho p F n + 1) * p := by rw [Nat.add_mul, Nat.one_mul]
      _ ≤ p ^ n * p := Nat.mul_le_mul_right p ih
theorem zho_cf {p : Nat} (v : Nat) (n : Nat) (hn : n ≤ 8) (hv : v < p ^ 8) : zho p (zcf p v) n = v / p ^ (8 - n) := by
  induction n with
  | zero => simp only [zho]; rw [Nat.div_eq_of_lt hv]
  | succ n ih =>
    simp only [zho]
    rw [ih (by omega)]
    have e : 8 - n = (7 - n) + 1 := by omega
    have e2 : 8 - (n + 1) = 7 - n := by omega
    rw [e, e2, Nat.pow_succ, ← Nat.div_div_eq_div_mul]
    simp only [zcf, Nat.mod_mod]
    rw [Nat.mul_comm]
    exact Nat.div_add_mod (v / p ^ (7 - n)) p
theorem zho_id {p v : Nat} (hv : v < p ^ 8) : zho p (zcf p v) 8 = v := by
  rw [zho_cf v 8 (Nat.le_refl _) hv]; simp
theorem zcf_ho {p : Nat} (hp : 0 < p) (F : Nat → Nat) : ∀ (n k : Nat), n ≤ 8 → 8 - n ≤ k → k < 8 → zho p F n / p ^ (k - (8 - n)) % p = F k % p := by
  intro n
  induction n with
  | zero => intro k _ h1 h2; omega
  | succ n ih =>
    intro k hn h1 h2
    simp only [zho]
    by_cases hk : k = 7 - n
    · subst hk
      rw [show 7 - n - (8 - (n + 1)) = 0 by omega, Nat.pow_zero, Nat.div_one, Nat.mul_comm, Nat.mul_add_mod, Nat.mod_mod]
    · have e : k - (8 - (n + 1)) = (k - (8 - n)) + 1 := by omega
      rw [e, Nat.pow_succ, Nat.mul_comm (p ^ (k - (8 - n))) p, ← Nat.div_div_eq_div_mul, Nat.mul_comm (zho p F n) p, Nat.mul_add_div hp, Nat.div_eq_of_lt (Nat.mod_lt _ hp), Nat.add_zero]
      exact ih k (by omega) (by omega) h2
theorem zcf_zho {p : Nat} (hp : 0 < p) (F : Nat → Nat) {k : Nat} (hk : k < 8) : zcf p (zho p F 8) k = F k % p := by
  have := zcf_ho hp F 8 k (Nat.le_refl _) (by omega) hk
  simpa [zcf] using this
/-- equal coefficients, equal numbers -/
theorem zcf_ext {p v u : Nat} (hv : v < p ^ 8) (hu : u < p ^ 8) (h : ∀ k, k < 8 → zcf p v k = zcf p u k) : v = u := by
  rw [← zho_id hv, ← zho_id hu]
  exact zho_congr (Nat.le_refl _) (fun k hk => by rw [h k hk])
theorem zcf_nz {p v : Nat} (hp : 1 < p) (hv : v < p ^ 8) (h : v ≠ 0) : 0 < zdn (zcf p v) 8 := by
  rcases Nat.eq_zero_or_pos (zdn (zcf p v) 8) with h0 | h0
  · exfalso
    apply h
    refine zcf_ext hv (Nat.pow_pos (by omega)) (fun k hk => ?_)
    rw [zcf_0]
    exact zdn_top (n := 8) (by omega) hk
  · exact h0
/-- products -/
def zct (f b : Nat → Nat) (i k : Nat) : Nat := if i ≤ k ∧ k < i + 8 then f i * b (k - i) else 0
def zcs (f b : Nat → Nat) : Nat → Nat → Nat
  | 0, _ => 0
  | n + 1, k => zcs f b n k + zct f b n k
def zcj (f b : Nat → Nat) (i j k : Nat) : Nat := zcs f b i k + (if i ≤ k ∧ k < i + j then f i * b (k - i) else 0)
theorem zcj_0 (f b : Nat → Nat) (i k : Nat) : zcj f b i 0 k = zcs f b i k := by
  unfold zcj; rw [if_neg (by omega)]; rfl
theorem zcj_8 (f b : Nat → Nat) (i k : Nat) : zcj f b i 8 k = zcs f b (i + 1) k := rfl
theorem zcj_s (f b : Nat → Nat) (i j k : Nat) : zcj f b i (j + 1) k = if k = i + j then zcj f b i j k + f i * b j else zcj f b i j k := by
  unfold zcj
  by_cases hk : k = i + j
  · subst hk
    rw [if_pos (show i ≤ i + j ∧ i + j < i + (j + 1) by omega), if_neg (show ¬ (i ≤ i + j ∧ i + j < i + j) by omega), if_pos rfl, show i + j - i = j by omega]; omega
  · rw [if_neg hk]
    by_cases h1 : i ≤ k ∧ k < i + j
    · rw [if_pos h1, if_pos (by omega)]
    · rw [if_neg h1, if_neg (by omega)]
theorem zcj_e {f b : Nat → Nat} {i j k : Nat} (hk : k < i + j) (hj : j ≤ 8) : zcj f b i j k = zcs f b (i + 1) k := by
  unfold zcj
  simp only [zcs, zct]
  by_cases h1 : i ≤ k
  · rw [if_pos ⟨h1, hk⟩, if_pos (by omega)]
  · rw [if_neg (by omega), if_neg (by omega)]
theorem zcs_lt {f b : Nat → Nat} {q : Nat} (hf : ∀ k, f k < q) (hb : ∀ k, b k < q) (n k : Nat) : zcs f b n k ≤ n * (q * q) := by
  induction n with
  | zero => simp [zcs]
  | succ n ih =>
    simp only [zcs, zct]
    have h1 : f n * b (k - n) ≤ q * q := Nat.mul_le_mul (Nat.le_of_lt (hf n)) (Nat.le_of_lt (hb _))
    have h2 : (n + 1) * (q * q) = n * (q * q) + q * q := by rw [Nat.add_mul, Nat.one_mul]
    split <;> omega
theorem zcj_lt {f b : Nat → Nat} {q : Nat} (hf : ∀ k, f k < q) (hb : ∀ k, b k < q) (i j k : Nat) : zcj f b i j k ≤ (i + 1) * (q * q) := by
  unfold zcj
  have h0 := zcs_lt hf hb i k
  have h1 : f i * b (k - i) ≤ q * q := Nat.mul_le_mul (Nat.le_of_lt (hf i)) (Nat.le_of_lt (hb _))
  have h2 : (i + 1) * (q * q) = i * (q * q) + q * q := by rw [Nat.add_mul, Nat.one_mul]
  split <;> omega
theorem zcs_zero {f b : Nat → Nat} {n k : Nat} (h : ∀ i, i < n → i ≤ k → k < i + 8 → f i * b (k - i) = 0) : zcs f b n k = 0 := by
  induction n with
  | zero => rfl
  | succ n ih =>
    simp only [zcs, zct]
    rw [ih (fun i hi => h i (by omega))]
    split
    · rename_i h1; rw [h n (by omega) h1.1 h1.2]
    · rfl
theorem zcs_one {f b : Nat → Nat} {n k a : Nat} (ha : a < n) (h1 : a ≤ k) (h2 : k < a + 8) (h : ∀ i, i < n → i ≠ a → i ≤ k → k < i + 8 → f i * b (k - i) = 0) : zcs f b n k = f a * b (k - a) := by
  induction n with
  | zero => omega
  | succ n ih =>
    simp only [zcs, zct]
    by_cases hn : a = n
    · subst hn
      rw [zcs_zero (fun i hi => h i (by omega) (by omega)), if_pos ⟨h1, h2⟩, Nat.zero_add]
    · rw [ih (by omega) (fun i hi => h i (by omega))]
      split
      · rename_i h3; rw [h n (by omega) (fun e => hn e.symm) h3.1 h3.2]; rfl
      · rfl
/-- the coefficients of a and f times b -/
def zcC (p a f b k : Nat) : Nat := (zcs (zcf p f) (zcf p b) 8 k % p + (if k < 8 then zcf p a k else 0)) % p
def zplP (p a f b : Nat) : Option Nat := if 8 < zdn (zcC p a f b) 16 then none else some (zho p (zcC p a f b) 8)
def zngP (p a : Nat) : Nat := zho p (fun k => p - zcf p a k) 8
/-- the first of w .. that times v is 1 -/
def zis (p v : Nat) : Nat → Nat → Nat
  | _, 0 => 1
  | w, n + 1 => if v * w % p = 1 then w else zis p v (w + 1) n
def zivP (p v : Nat) : Nat := zis p v 1 (p - 1)
theorem zivP_ok {p v : Nat} (hp : zprm p) (h0 : 0 < v) (hv : v < p) : 1 ≤ zivP p v ∧ zivP p v < p ∧ v * zivP p v % p = 1 ∧ ∀ w, 1 ≤ w → w < zivP p v → ¬ v * w % p = 1 := by
  have h : ∀ p, (p = 2 ∨ p = 3 ∨ p = 5 ∨ p = 7) → ∀ v, v < p → 0 < v → 1 ≤ zivP p v ∧ zivP p v < p ∧ v * zivP p v % p = 1 ∧ ∀ w, w < zivP p v → 1 ≤ w → ¬ v * w % p = 1 := by
    intro p hp
    rcases hp with rfl | rfl | rfl | rfl <;> decide
  obtain ⟨a, b, c, d⟩ := h p hp v hv h0
  exact ⟨a, b, c, fun w h1 h2 => d w h2 h1⟩
def zdvS (p : Nat) (b : Nat → Nat) (d c k n : Nat) (t : Nat → Nat) : Nat → Nat := fun j => if k ≤ j ∧ j < k + n then (t j + (p - c) * b (j - k)) % p else t j
def zdvL (p : Nat) (b : Nat → Nat) (d iv : Nat) : Nat → (Nat → Nat) × (Nat → Nat) → (Nat → Nat) × (Nat → Nat)
  | 0, s => s
  | n + 1, s => zdvL p b d iv n (zdvS p b d (s.1 (n + d) * iv % p) n (d + 1) s.1, va_up s.2 n (s.1 (n + d) * iv % p))
def zqP (p a b : Nat) : Nat := zho p (zdvL p (zcf p b) (zdn (zcf p b) 8 - 1) (zivP p (zcf p b (zdn (zcf p b) 8 - 1))) (9 - zdn (zcf p b) 8) (zcf p a, fun _ => 0)).2 8
