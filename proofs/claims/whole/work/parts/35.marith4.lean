/-! the reference's quotient of polynomials -/
theorem zdvS_s {q : Nat} {b t : Nat → Nat} {d c k n j : Nat} : zdvS q b d c k (n + 1) t j = if j = k + n then (zdvS q b d c k n t j + (q - c) * b n) % q else zdvS q b d c k n t j := by
  unfold zdvS
  by_cases h : j = k + n
  · subst h
    rw [if_pos (by omega), if_pos rfl, if_neg (by omega), show k + n - k = n by omega]
  · rw [if_neg h]
    by_cases h1 : k ≤ j ∧ j < k + n
    · rw [if_pos h1, if_pos (by omega)]
    · rw [if_neg h1, if_neg (by omega)]
theorem zdvS_0 {q : Nat} {b t : Nat → Nat} {d c k j : Nat} : zdvS q b d c k 0 t j = t j := by
  unfold zdvS; rw [if_neg (by omega)]
theorem zdvS_lt {q : Nat} (hq : 0 < q) {b t : Nat → Nat} {d c k n j : Nat} (h : t j < q) : zdvS q b d c k n t j < q := by
  unfold zdvS
  split
  · exact Nat.mod_lt _ hq
  · exact h
theorem zdvL_q {q : Nat} (hq : 0 < q) {b : Nat → Nat} {d iv : Nat} : ∀ (n : Nat) (s : (Nat → Nat) × (Nat → Nat)), (∀ k, s.2 k < q) → ∀ k, (zdvL q b d iv n s).2 k < q := by
  intro n
  induction n with
  | zero => intro s h k; exact h k
  | succ n ih =>
    intro s h k
    refine ih _ (fun k => ?_) k
    dsimp only
    by_cases hk : k = n
    · subst hk; rw [va_up_self]; exact Nat.mod_lt _ hq
    · rw [va_up_ne _ _ hk]; exact h k
theorem zdvL_hi {q : Nat} {b : Nat → Nat} {d iv : Nat} : ∀ (n : Nat) (s : (Nat → Nat) × (Nat → Nat)) (k : Nat), n ≤ k → (zdvL q b d iv n s).2 k = s.2 k := by
  intro n
  induction n with
  | zero => intro s k _; rfl
  | succ n ih =>
    intro s k hk
    show (zdvL q b d iv n _).2 k = s.2 k
    rw [ih _ k (by omega)]
    exact va_up_ne _ _ (by omega)
theorem l193i {K : zKt} {code rf rs pr pn : Int32} {bad : Bool} {J : zJt} {m pb pc vf vs : Nat → Int32} {B : zBt} {w : Nat → Int64} {p : Nat × Nat} {Q : zR → zH → Prop} {q b d c k iv : Nat} {t : Nat → Nat} (hq : zprm q) (hd : d < 8) (hk : k + d < 8) (hc : c < q) (ht : ∀ j, t j < q) (hpb : ∀ j, j < 8 → pb j = Int32.ofNat (zcf q b j))
    (H : ∀ pa', (∀ j, j < 8 → pa' j = Int32.ofNat (zdvS q (zcf q b) d c k (d + 1) t j)) → zW zm_193 73 [some (.ref 75), some (.int (Int32.ofNat q)), none, none, some (.int (Int32.ofNat d)), some (.int (Int32.ofNat iv)), some (.int (zpre k)), none, none] [] p (zh K (code, rf, rs, bad, pr, pn, J) (m, pa', pb, pc, vf, vs, B) w) Q) :
    ∀ (n i : Nat) (pa : Nat → Int32), i + n = d + 1 → (∀ j, j < 8 → pa j = Int32.ofNat (zdvS q (zcf q b) d c k i t j)) →
    zW zm_193 107 [some (.ref 75), some (.int (Int32.ofNat q)), none, none, some (.int (Int32.ofNat d)), some (.int (Int32.ofNat iv)), some (.int (Int32.ofNat k)), some (.int (Int32.ofNat c)), some (.int (Int32.ofNat i))] [] p (zh K (code, rf, rs, bad, pr, pn, J) (m, pa, pb, pc, vf, vs, B) w) Q := by
  have hq7 := zprm_lt hq
  intro n
  induction n with
  | zero =>
    intro i pa hi hpa
    have : i = d + 1 := by omega
    subst this
    exact b193_107 ⟨fun _ => H pa hpa, fun h => absurd (show Int32.ofNat d < Int32.ofNat (d + 1) by rw [Int32.lt_iff_toInt_lt, zN_i (by omega), zN_i (by omega)]; omega) h⟩
  | succ n ih =>
    intro i pa hi hpa
    refine b193_107 ⟨fun h => ?_, fun _ => ⟨by omega, by omega, zN_nz rfl (by omega) (by omega), ?_⟩⟩
    · rw [Int32.lt_iff_toInt_lt, zN_i (by omega), zN_i (by omega)] at h; omega
    · have h1 := zdvS_lt (q := q) (by omega) (b := zcf q b) (d := d) (c := c) (k := k) (n := i) (ht (k + i))
      have h2 : (q - c) * zcf q b i ≤ 7 * 7 := Nat.mul_le_mul (by omega) (by have := zcf_lt (p := q) (by omega) b i; omega)
      rw [hpa (k + i) (by omega), hpb i (by omega), zN_sb rfl rfl (Nat.le_of_lt hc), zN_r (zN_a rfl (zN_m rfl rfl)) rfl (by omega) (by omega)]
      refine ih (i + 1) _ (by omega) (fun j hj => ?_)
      rw [zdvS_s]
      by_cases hji : j = k + i
      · subst hji; rw [va_up_self, if_pos rfl]
      · rw [va_up_ne _ _ hji, if_neg hji]; exact hpa j hj
theorem l193o {K : zKt} {code rf rs pr pn : Int32} {bad : Bool} {J : zJt} {m pb vf vs : Nat → Int32} {B : zBt} {w : Nat → Int64} {p : Nat × Nat} {Q : zR → zH → Prop} {q b d iv : Nat} (hq : zprm q) (hd : d < 8) (hiv : iv < q) (hpb : ∀ j, j < 8 → pb j = Int32.ofNat (zcf q b j)) :
    ∀ (n : Nat) (pa pc : Nat → Int32) (t u : Nat → Nat), n + d ≤ 8 → (∀ j, t j < q) → (∀ j, j < 8 → pa j = Int32.ofNat (t j)) → (∀ j, j < 16 → pc j = Int32.ofNat (u j)) →
    (∀ pa' pc', (∀ j, j < 16 → pc' j = Int32.ofNat ((zdvL q (zcf q b) d iv n (t, u)).2 j)) → zT zm_160 [.ref 75, .int (Int32.ofNat q)] p (zh K (code, rf, rs, bad, pr, pn, J) (m, pa', pb, pc', vf, vs, B) w) (zK zm_193 166 [none, none, none, none, none, none, none, none, none] [] p Q)) →
    zW zm_193 73 [some (.ref 75), some (.int (Int32.ofNat q)), none, none, some (.int (Int32.ofNat d)), some (.int (Int32.ofNat iv)), some (.int (zpre n)), none, none] [] p (zh K (code, rf, rs, bad, pr, pn, J) (m, pa, pb, pc, vf, vs, B) w) Q := by
  have hq7 := zprm_lt hq
  intro n
  induction n with
  | zero => intro pa pc t u _ ht hpa hpc H; exact b193_73 ⟨fun _ => H pa pc hpc, fun h => absurd (show zpre 0 < 0 by decide) h⟩
  | succ n ih =>
    intro pa pc t u hn ht hpa hpc H
    rw [zpre_s]
    refine b193_73 ⟨fun h => absurd h (zN_ge0 (by omega)), fun h k hk e => ?_⟩
    have e := zN_inj (by omega) hk e
    subst e
    refine ⟨n + d, zN_a rfl rfl, by omega, zN_nz rfl (by omega) (by omega), by omega, ?_⟩
    have h1 : t (n + d) * iv ≤ 7 * 7 := Nat.mul_le_mul (by have := ht (n + d); omega) (by omega)
    rw [hpa (n + d) (by omega), zN_r (zN_m rfl rfl) rfl (by omega) (by omega)]
    refine l193i (t := t) hq hd (by omega) (Nat.mod_lt _ (by omega)) ht hpb (fun pa' hpa' => ?_) (d + 1) 0 pa (by omega) (fun j hj => by rw [zdvS_0]; exact hpa j hj)
    refine ih pa' _ (zdvS q (zcf q b) d (t (n + d) * iv % q) n (d + 1) t) (va_up u n (t (n + d) * iv % q)) (by omega) (fun j => zdvS_lt (by omega) (ht j)) hpa' (fun j hj => ?_) H
    by_cases hji : j = n
    · subst hji; rw [va_up_self, va_up_self]
    · rw [va_up_ne _ _ hji, va_up_ne _ _ hji]; exact hpc j hj
theorem l193z {K : zKt} {code rf rs pr pn : Int32} {bad : Bool} {J : zJt} {m pa pb vf vs : Nat → Int32} {B : zBt} {w : Nat → Int64} {p : Nat × Nat} {Q : zR → zH → Prop} {q a b : Nat} (hq : zprm q) (ha : a < q ^ 8) (hb : b < q ^ 8) (hb0 : b ≠ 0) (hpa : ∀ j, j < 8 → pa j = Int32.ofNat (zcf q a j)) (hpb : ∀ j, j < 8 → pb j = Int32.ofNat (zcf q b j))
    (H : ∀ pa' pc', Q (.inl none) (zh K (code, (bif bad then 0 else Int32.ofNat (zqP q a b)), 0, bad, pr, pn, J) (m, pa', pb, pc', vf, vs, B) w)) :
    ∀ (n x : Nat) (pc : Nat → Int32), x + n = 16 → (∀ k, k < x → pc k = 0) → zW zm_193 21 [some (.ref 75), some (.int (Int32.ofNat q)), none, none, some (.int (Int32.ofNat x)), none, none, none, none] [] p (zh K (code, rf, rs, bad, pr, pn, J) (m, pa, pb, pc, vf, vs, B) w) Q := by
  have hq7 := zprm_lt hq
  have hD := zcf_nz (p := q) (by omega) hb hb0
  have hD8 := zdn_le (zcf q b) 8
  have hl : ∀ k, k < 8 → zcf q b k < 2147483648 := fun k _ => by have := zcf_lt (p := q) (by omega) b k; omega
  intro n
  induction n with
  | zero =>
    intro x pc hx hpc
    refine b193_21 ⟨by omega, fun _ => s161b (n := 7) (by decide) ?_, fun h => by omega⟩
    rw [zdI_N hpb hl]
    obtain ⟨d, hd⟩ : ∃ d, zdn (zcf q b) 8 = d + 1 := ⟨zdn (zcf q b) 8 - 1, by omega⟩
    rw [hd, zpre_s]
    have hlead : zcf q b d ≠ 0 := by have := zdn_at hD; rw [hd] at this; exact this
    refine b193_51 ⟨d, rfl, by omega, ?_⟩
    rw [hpb d (by omega)]
    have hiv := zivP_ok hq (show 0 < zcf q b d by omega) (zcf_lt (by omega) b d)
    refine s194 hq (by omega) (zcf_lt (by omega) b d) (b193_64 ?_)
    rw [show (7 : Int32) - Int32.ofNat d = zpre (8 - d) by rw [show 8 - d = (7 - d) + 1 by omega, zpre_s]; exact zN_sb rfl rfl (by omega)]
    have hz : ∀ k, (zdvL q (zcf q b) d (zivP q (zcf q b d)) (8 - d) (zcf q a, fun _ => 0)).2 k < q := zdvL_q (by omega) _ _ (fun _ => by show 0 < q; omega)
    refine l193o hq (by omega) hiv.2.1 hpb (8 - d) pa pc (zcf q a) (fun _ => 0) (by omega) (fun j => zcf_lt (by omega) a j) hpa (fun j hj => by rw [hpc j (by omega)]; rfl) (fun pa' pc' hpc' => ?_)
    refine s160 (F := (zdvL q (zcf q b) d (zivP q (zcf q b d)) (8 - d) (zcf q a, fun _ => 0)).2) (by omega) hpc' (fun k _ => hz k) (b193_166 ?_)
    have h8 : ¬ 8 < zdn (zdvL q (zcf q b) d (zivP q (zcf q b d)) (8 - d) (zcf q a, fun _ => 0)).2 16 := by
      intro h8
      have := zdn_at (F := (zdvL q (zcf q b) d (zivP q (zcf q b d)) (8 - d) (zcf q a, fun _ => 0)).2) (n := 16) (by omega)
      rw [zdvL_hi _ _ _ (by omega)] at this
      exact this rfl
    rw [decide_eq_false h8, Bool.or_false]
    have hqq : zqP q a b = zho q (zdvL q (zcf q b) d (zivP q (zcf q b d)) (8 - d) (zcf q a, fun _ => 0)).2 8 := by
      unfold zqP
      rw [hd, Nat.add_sub_cancel, show 9 - (d + 1) = 8 - d by omega]
    rw [← hqq]
    exact H pa' pc'
  | succ n ih =>
    intro x pc hx hpc
    refine b193_21 ⟨by omega, fun h => by omega, fun h => ⟨h, ih (x + 1) _ (by omega) (fun k hk => ?_)⟩⟩
    by_cases hkx : k = x
    · subst hkx; rw [va_up_self]
    · rw [va_up_ne _ _ hkx]; exact hpc k (by omega)
theorem s193 {K : zKt} {code rf rs pr pn : Int32} {bad : Bool} {J : zJt} {m pa pb pc vf vs : Nat → Int32} {B : zBt} {w : Nat → Int64} {p : Nat × Nat} {Q : zR → zH → Prop} {q a b : Nat} (hq : zprm q) (ha : a < q ^ 8) (hb : b < q ^ 8) (hb0 : b ≠ 0) (H : ∀ pa' pb' pc', Q (.inl none) (zh K (code, (bif bad then 0 else Int32.ofNat (zqP q a b)), 0, bad, pr, pn, J) (m, pa', pb', pc', vf, vs, B) w)) :
    zT zm_193 [.ref 75, .int (Int32.ofNat q), .int (Int32.ofNat a), .int (Int32.ofNat b)] p (zh K (code, rf, rs, bad, pr, pn, J) (m, pa, pb, pc, vf, vs, B) w) Q := by
  have hq7 := zprm_lt hq
  have hpw := zpw_lt hq
  refine b193 (s159a (by omega) (by omega) (by omega) (fun pa' hpa => b193_9 (s159b (by omega) (by omega) (by omega) (fun pb' hpb => b193_18 ?_))))
  exact l193z hq ha hb hb0 hpa hpb (fun pa2 pc2 => H pa2 pb' pc2) 16 0 pc rfl (fun k hk => by omega)
