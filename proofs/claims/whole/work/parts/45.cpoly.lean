/-! THE CLASS'S POLYNOMIALS -/
theorem zpj_p {j : Nat} (h1 : 1 ≤ j) (h4 : j ≤ 4) : zprm (zpj j) := by
  have : j = 1 ∨ j = 2 ∨ j = 3 ∨ j = 4 := by omega
  rcases this with rfl | rfl | rfl | rfl
  · exact Or.inl rfl
  · exact Or.inr (Or.inl rfl)
  · exact Or.inr (Or.inr (Or.inl rfl))
  · exact Or.inr (Or.inr (Or.inr rfl))
theorem zpj_n {j : Nat} (h1 : 1 ≤ j) (h4 : j ≤ 4) : Int32.ofNat (zpj j) ≠ 0 := by
  have := zprm_lt (zpj_p h1 h4)
  intro h
  have := (zN_0 (by omega)).mp h
  omega
theorem zpre_m (n : Nat) : Int32.ofNat n + Int32.ofInt (-1) = zpre n := rfl
theorem l61l {T : Nat → zX} {Y : zYt} {I : zIt} {A : zAt} {w : Nat → Int64} {p : Nat × Nat} {Q : zR → zH → Prop} {j v : Nat} {R0 T0 : Nat → Int32} (h1 : 1 ≤ j) (h4 : j ≤ 4) (hv : v < 2147483648) (H : ∀ P', (∀ k, k < 8 → (P' j).1 k = Int32.ofNat (zcf (zpj j) v k)) → (P' j).2.1 = R0 → (P' j).2.2 = T0 → Q (.inl (some (.int (zpre (zdn (zcf (zpj j) v) 8))))) (zh (P', T, Y) I A w)) :
    ∀ (n x : Nat) (P : zPt), x + n = 8 → (∀ k, k < x → (P j).1 k = Int32.ofNat (zcf (zpj j) v k)) → (P j).2.1 = R0 → (P j).2.2 = T0 →
    zW zm_61 12 [some (.ref (4 * j)), none, none, some (.ref (4 * j + 1)), some (.int (Int32.ofNat (v / zpj j ^ x))), some (.int (zpre (zdn (zcf (zpj j) v) x))), some (.int (Int32.ofNat x))] [] p (zh (P, T, Y) I A w) Q := by
  have hq := zprm_lt (zpj_p h1 h4)
  have hn := zpj_n h1 h4
  intro n
  induction n with
  | zero =>
    intro x P hx f1 f2 f3
    have : x = 8 := by omega
    subst this
    exact b61l_12 h1 h4 ⟨by omega, fun _ => H P f1 f2 f3, fun h => by omega⟩
  | succ n ih =>
    intro x P hx f1 f2 f3
    have hd : v / zpj j ^ x < 2147483648 := Nat.lt_of_le_of_lt (Nat.div_le_self _ _) hv
    have er : Int32.ofNat (v / zpj j ^ x) - Int32.ofNat (v / zpj j ^ x) / Int32.ofNat (zpj j) * Int32.ofNat (zpj j) = Int32.ofNat (zcf (zpj j) v x) := zN_r rfl rfl hd (by omega)
    have ed : Int32.ofNat (v / zpj j ^ x) / Int32.ofNat (zpj j) = Int32.ofNat (v / zpj j ^ (x + 1)) := by rw [zN_d rfl rfl hd (by omega), Nat.div_div_eq_div_mul, ← Nat.pow_succ]
    have hc := zcf_lt (p := zpj j) (by omega) v x
    refine b61l_12 h1 h4 ⟨by omega, fun h => by omega, fun _ => ⟨hn, by omega, hn, ?_⟩⟩
    rw [er, ed, va_up_self]
    have go : ∀ d, d = zpre (zdn (zcf (zpj j) v) (x + 1)) → zW zm_61 12 [some (.ref (4 * j)), none, none, some (.ref (4 * j + 1)), some (.int (Int32.ofNat (v / zpj j ^ (x + 1)))), some (.int d), some (.int (Int32.ofNat (x + 1)))] [] p (zh ((va_up P j (va_up (P j).1 x (Int32.ofNat (zcf (zpj j) v x)), (P j).2.1, (P j).2.2)), T, Y) I A w) Q := by
      intro d hd2
      subst hd2
      refine ih (x + 1) _ (by omega) (fun k hk => ?_) (by rw [va_up_self]; exact f2) (by rw [va_up_self]; exact f3)
      rw [va_up_self]
      show va_up (P j).1 x (Int32.ofNat (zcf (zpj j) v x)) k = _
      by_cases hkx : k = x
      · subst hkx; rw [va_up_self]
      · rw [va_up_ne _ _ hkx]; exact f1 k (by omega)
    refine ⟨fun h => go _ ?_, fun h => go _ ?_⟩
    · have h0 : zcf (zpj j) v x = 0 := (zN_0 (by omega)).mp h
      simp only [zdn]; rw [if_pos h0]
    · have h0 : zcf (zpj j) v x ≠ 0 := fun e => h (by rw [e]; rfl)
      simp only [zdn]; rw [if_neg h0, zpre_s]
theorem s61l {P : zPt} {T : Nat → zX} {Y : zYt} {I : zIt} {A : zAt} {w : Nat → Int64} {p : Nat × Nat} {Q : zR → zH → Prop} {j v : Nat} {a : Int64} (h1 : 1 ≤ j) (h4 : j ≤ 4) (hv : v < 2147483648) (ha : zfi a = Int32.ofNat v) (H : ∀ P', (∀ k, k < 8 → (P' j).1 k = Int32.ofNat (zcf (zpj j) v k)) → (P' j).2.1 = (P j).2.1 → (P' j).2.2 = (P j).2.2 → Q (.inl (some (.int (zpre (zdn (zcf (zpj j) v) 8))))) (zh (P', T, Y) I A w)) :
    zT zm_61 [.ref (4 * j), .long a, .ref (4 * j + 1)] p (zh (P, T, Y) I A w) Q := by
  refine b61l ?_
  have h := l61l (p := p) (Q := Q) (R0 := (P j).2.1) (T0 := (P j).2.2) h1 h4 hv H 8 0 P rfl (fun k hk => by omega) rfl rfl
  rw [Nat.pow_zero, Nat.div_one, show zdn (zcf (zpj j) v) 0 = 0 from rfl, zpre_0] at h
  rw [ha]
  exact h
theorem l61r {T : Nat → zX} {Y : zYt} {I : zIt} {A : zAt} {w : Nat → Int64} {p : Nat × Nat} {Q : zR → zH → Prop} {j v : Nat} {R0 T0 : Nat → Int32} (h1 : 1 ≤ j) (h4 : j ≤ 4) (hv : v < 2147483648) (H : ∀ P', (∀ k, k < 8 → (P' j).2.1 k = Int32.ofNat (zcf (zpj j) v k)) → (P' j).1 = R0 → (P' j).2.2 = T0 → Q (.inl (some (.int (zpre (zdn (zcf (zpj j) v) 8))))) (zh (P', T, Y) I A w)) :
    ∀ (n x : Nat) (P : zPt), x + n = 8 → (∀ k, k < x → (P j).2.1 k = Int32.ofNat (zcf (zpj j) v k)) → (P j).1 = R0 → (P j).2.2 = T0 →
    zW zm_61 12 [some (.ref (4 * j)), none, none, some (.ref (4 * j + 2)), some (.int (Int32.ofNat (v / zpj j ^ x))), some (.int (zpre (zdn (zcf (zpj j) v) x))), some (.int (Int32.ofNat x))] [] p (zh (P, T, Y) I A w) Q := by
  have hq := zprm_lt (zpj_p h1 h4)
  have hn := zpj_n h1 h4
  intro n
  induction n with
  | zero =>
    intro x P hx f1 f2 f3
    have : x = 8 := by omega
    subst this
    exact b61r_12 h1 h4 ⟨by omega, fun _ => H P f1 f2 f3, fun h => by omega⟩
  | succ n ih =>
    intro x P hx f1 f2 f3
    have hd : v / zpj j ^ x < 2147483648 := Nat.lt_of_le_of_lt (Nat.div_le_self _ _) hv
    have er : Int32.ofNat (v / zpj j ^ x) - Int32.ofNat (v / zpj j ^ x) / Int32.ofNat (zpj j) * Int32.ofNat (zpj j) = Int32.ofNat (zcf (zpj j) v x) := zN_r rfl rfl hd (by omega)
    have ed : Int32.ofNat (v / zpj j ^ x) / Int32.ofNat (zpj j) = Int32.ofNat (v / zpj j ^ (x + 1)) := by rw [zN_d rfl rfl hd (by omega), Nat.div_div_eq_div_mul, ← Nat.pow_succ]
    have hc := zcf_lt (p := zpj j) (by omega) v x
    refine b61r_12 h1 h4 ⟨by omega, fun h => by omega, fun _ => ⟨hn, by omega, hn, ?_⟩⟩
    rw [er, ed, va_up_self]
    have go : ∀ d, d = zpre (zdn (zcf (zpj j) v) (x + 1)) → zW zm_61 12 [some (.ref (4 * j)), none, none, some (.ref (4 * j + 2)), some (.int (Int32.ofNat (v / zpj j ^ (x + 1)))), some (.int d), some (.int (Int32.ofNat (x + 1)))] [] p (zh ((va_up P j ((P j).1, va_up (P j).2.1 x (Int32.ofNat (zcf (zpj j) v x)), (P j).2.2)), T, Y) I A w) Q := by
      intro d hd2
      subst hd2
      refine ih (x + 1) _ (by omega) (fun k hk => ?_) (by rw [va_up_self]; exact f2) (by rw [va_up_self]; exact f3)
      rw [va_up_self]
      show va_up (P j).2.1 x (Int32.ofNat (zcf (zpj j) v x)) k = _
      by_cases hkx : k = x
      · subst hkx; rw [va_up_self]
      · rw [va_up_ne _ _ hkx]; exact f1 k (by omega)
    refine ⟨fun h => go _ ?_, fun h => go _ ?_⟩
    · have h0 : zcf (zpj j) v x = 0 := (zN_0 (by omega)).mp h
      simp only [zdn]; rw [if_pos h0]
    · have h0 : zcf (zpj j) v x ≠ 0 := fun e => h (by rw [e]; rfl)
      simp only [zdn]; rw [if_neg h0, zpre_s]
theorem s61r {P : zPt} {T : Nat → zX} {Y : zYt} {I : zIt} {A : zAt} {w : Nat → Int64} {p : Nat × Nat} {Q : zR → zH → Prop} {j v : Nat} {a : Int64} (h1 : 1 ≤ j) (h4 : j ≤ 4) (hv : v < 2147483648) (ha : zfi a = Int32.ofNat v) (H : ∀ P', (∀ k, k < 8 → (P' j).2.1 k = Int32.ofNat (zcf (zpj j) v k)) → (P' j).1 = (P j).1 → (P' j).2.2 = (P j).2.2 → Q (.inl (some (.int (zpre (zdn (zcf (zpj j) v) 8))))) (zh (P', T, Y) I A w)) :
    zT zm_61 [.ref (4 * j), .long a, .ref (4 * j + 2)] p (zh (P, T, Y) I A w) Q := by
  refine b61r ?_
  have h := l61r (p := p) (Q := Q) (R0 := (P j).1) (T0 := (P j).2.2) h1 h4 hv H 8 0 P rfl (fun k hk => by omega) rfl rfl
  rw [Nat.pow_zero, Nat.div_one, show zdn (zcf (zpj j) v) 0 = 0 from rfl, zpre_0] at h
  rw [ha]
  exact h
theorem l61t {T : Nat → zX} {Y : zYt} {I : zIt} {A : zAt} {w : Nat → Int64} {p : Nat × Nat} {Q : zR → zH → Prop} {j v : Nat} {R0 T0 : Nat → Int32} (h1 : 1 ≤ j) (h4 : j ≤ 4) (hv : v < 2147483648) (H : ∀ P', (∀ k, k < 8 → (P' j).2.2 k = Int32.ofNat (zcf (zpj j) v k)) → (P' j).1 = R0 → (P' j).2.1 = T0 → Q (.inl (some (.int (zpre (zdn (zcf (zpj j) v) 8))))) (zh (P', T, Y) I A w)) :
    ∀ (n x : Nat) (P : zPt), x + n = 8 → (∀ k, k < x → (P j).2.2 k = Int32.ofNat (zcf (zpj j) v k)) → (P j).1 = R0 → (P j).2.1 = T0 →
    zW zm_61 12 [some (.ref (4 * j)), none, none, some (.ref (4 * j + 3)), some (.int (Int32.ofNat (v / zpj j ^ x))), some (.int (zpre (zdn (zcf (zpj j) v) x))), some (.int (Int32.ofNat x))] [] p (zh (P, T, Y) I A w) Q := by
  have hq := zprm_lt (zpj_p h1 h4)
  have hn := zpj_n h1 h4
  intro n
  induction n with
  | zero =>
    intro x P hx f1 f2 f3
    have : x = 8 := by omega
    subst this
    exact b61t_12 h1 h4 ⟨by omega, fun _ => H P f1 f2 f3, fun h => by omega⟩
  | succ n ih =>
    intro x P hx f1 f2 f3
    have hd : v / zpj j ^ x < 2147483648 := Nat.lt_of_le_of_lt (Nat.div_le_self _ _) hv
    have er : Int32.ofNat (v / zpj j ^ x) - Int32.ofNat (v / zpj j ^ x) / Int32.ofNat (zpj j) * Int32.ofNat (zpj j) = Int32.ofNat (zcf (zpj j) v x) := zN_r rfl rfl hd (by omega)
    have ed : Int32.ofNat (v / zpj j ^ x) / Int32.ofNat (zpj j) = Int32.ofNat (v / zpj j ^ (x + 1)) := by rw [zN_d rfl rfl hd (by omega), Nat.div_div_eq_div_mul, ← Nat.pow_succ]
    have hc := zcf_lt (p := zpj j) (by omega) v x
    refine b61t_12 h1 h4 ⟨by omega, fun h => by omega, fun _ => ⟨hn, by omega, hn, ?_⟩⟩
    rw [er, ed, va_up_self]
    have go : ∀ d, d = zpre (zdn (zcf (zpj j) v) (x + 1)) → zW zm_61 12 [some (.ref (4 * j)), none, none, some (.ref (4 * j + 3)), some (.int (Int32.ofNat (v / zpj j ^ (x + 1)))), some (.int d), some (.int (Int32.ofNat (x + 1)))] [] p (zh ((va_up P j ((P j).1, (P j).2.1, va_up (P j).2.2 x (Int32.ofNat (zcf (zpj j) v x)))), T, Y) I A w) Q := by
      intro d hd2
      subst hd2
      refine ih (x + 1) _ (by omega) (fun k hk => ?_) (by rw [va_up_self]; exact f2) (by rw [va_up_self]; exact f3)
      rw [va_up_self]
      show va_up (P j).2.2 x (Int32.ofNat (zcf (zpj j) v x)) k = _
      by_cases hkx : k = x
      · subst hkx; rw [va_up_self]
      · rw [va_up_ne _ _ hkx]; exact f1 k (by omega)
    refine ⟨fun h => go _ ?_, fun h => go _ ?_⟩
    · have h0 : zcf (zpj j) v x = 0 := (zN_0 (by omega)).mp h
      simp only [zdn]; rw [if_pos h0]
    · have h0 : zcf (zpj j) v x ≠ 0 := fun e => h (by rw [e]; rfl)
      simp only [zdn]; rw [if_neg h0, zpre_s]
theorem s61t {P : zPt} {T : Nat → zX} {Y : zYt} {I : zIt} {A : zAt} {w : Nat → Int64} {p : Nat × Nat} {Q : zR → zH → Prop} {j v : Nat} {a : Int64} (h1 : 1 ≤ j) (h4 : j ≤ 4) (hv : v < 2147483648) (ha : zfi a = Int32.ofNat v) (H : ∀ P', (∀ k, k < 8 → (P' j).2.2 k = Int32.ofNat (zcf (zpj j) v k)) → (P' j).1 = (P j).1 → (P' j).2.1 = (P j).2.1 → Q (.inl (some (.int (zpre (zdn (zcf (zpj j) v) 8))))) (zh (P', T, Y) I A w)) :
    zT zm_61 [.ref (4 * j), .long a, .ref (4 * j + 3)] p (zh (P, T, Y) I A w) Q := by
  refine b61t ?_
  have h := l61t (p := p) (Q := Q) (R0 := (P j).1) (T0 := (P j).2.1) h1 h4 hv H 8 0 P rfl (fun k hk => by omega) rfl rfl
  rw [Nat.pow_zero, Nat.div_one, show zdn (zcf (zpj j) v) 0 = 0 from rfl, zpre_0] at h
  rw [ha]
  exact h
theorem zLN {a : Nat} (ha : a < 9223372036854775808) : (Int64.ofNat a).toInt = (a : Int) := by
  rw [Int64.toInt_ofNat', show Int64.size = 18446744073709551616 from rfl]
  simp only [Int.bmod_def]
  omega
theorem zNL {a : Nat} (ha : a < 2147483648) : (Int32.ofNat a).toInt64 = Int64.ofNat a := by
  rw [← Int64.toInt_inj, Int32.toInt_toInt64, zN_i ha, zLN (by omega)]
theorem zLN32 {a : Nat} (ha : a < 2147483648) : (Int64.ofNat a).toInt32 = Int32.ofNat a := by
  rw [← Int32.toInt_inj, zL_32 (by rw [zLN (by omega)]; omega) (by rw [zLN (by omega)]; omega), zLN (by omega), zN_i ha]
theorem l62l {P : zPt} {T : Nat → zX} {Y : zYt} {I : zIt} {A : zAt} {w : Nat → Int64} {p : Nat × Nat} {Q : zR → zH → Prop} {j : Nat} {F : Nat → Nat} (h1 : 1 ≤ j) (h4 : j ≤ 4) (hF : ∀ k, k < 8 → (P j).1 k = Int32.ofNat (F k)) (hl : ∀ k, k < 8 → F k < 2147483648) (H : Q (.inl (some (.long (zen (Int32.ofNat (zho (zpj j) F 8), 0))))) (zh (P, T, Y) I A w)) :
    ∀ n, n ≤ 8 → zW zm_62 6 [some (.ref (4 * j)), some (.ref (4 * j + 1)), some (.long (Int64.ofNat (zho (zpj j) F (8 - n)))), none, some (.int (zpre n))] [] p (zh (P, T, Y) I A w) Q := by
  have hq := zprm_lt (zpj_p h1 h4)
  have hpw := zpw_lt (zpj_p h1 h4)
  have hn := zpj_n h1 h4
  intro n
  induction n with
  | zero =>
    intro _
    refine b62l_6 h1 h4 ⟨fun _ => ?_, fun h => absurd (show zpre 0 < 0 by decide) h⟩
    have := zho_lt (p := zpj j) (by omega) F 8
    rw [ze64_n, zLN32 (by show zho (zpj j) F 8 < _; omega)]
    exact H
  | succ n ih =>
    intro hn8
    rw [zpre_s]
    refine b62l_6 h1 h4 ⟨fun h => absurd h (zN_ge0 (by omega)), fun h k hk e => ?_⟩
    have e := zN_inj (by omega) hk e
    subst e
    refine ⟨by omega, hn, ?_⟩
    have hm := Nat.mod_lt (F n) (show 0 < zpj j by omega)
    rw [hF n (by omega), zN_r rfl rfl (hl n (by omega)) (by omega), zNL (by omega), zNL (by omega), ← Int64.ofNat_mul, ← Int64.ofNat_add, zpre_m]
    have e : zho (zpj j) F (8 - (n + 1)) * zpj j + F n % zpj j = zho (zpj j) F (8 - n) := by
      rw [show 8 - n = (8 - (n + 1)) + 1 by omega]
      simp only [zho]
      rw [show 7 - (8 - (n + 1)) = n by omega]
    rw [e]
    exact ih (by omega)
theorem s62l {P : zPt} {T : Nat → zX} {Y : zYt} {I : zIt} {A : zAt} {w : Nat → Int64} {p : Nat × Nat} {Q : zR → zH → Prop} {j : Nat} {F : Nat → Nat} (h1 : 1 ≤ j) (h4 : j ≤ 4) (hF : ∀ k, k < 8 → (P j).1 k = Int32.ofNat (F k)) (hl : ∀ k, k < 8 → F k < 2147483648) (H : Q (.inl (some (.long (zen (Int32.ofNat (zho (zpj j) F 8), 0))))) (zh (P, T, Y) I A w)) :
    zT zm_62 [.ref (4 * j), .ref (4 * j + 1)] p (zh (P, T, Y) I A w) Q := b62l (l62l h1 h4 hF hl H 8 (Nat.le_refl _))
theorem l62t {P : zPt} {T : Nat → zX} {Y : zYt} {I : zIt} {A : zAt} {w : Nat → Int64} {p : Nat × Nat} {Q : zR → zH → Prop} {j : Nat} {F : Nat → Nat} (h1 : 1 ≤ j) (h4 : j ≤ 4) (hF : ∀ k, k < 8 → (P j).2.2 k = Int32.ofNat (F k)) (hl : ∀ k, k < 8 → F k < 2147483648) (H : Q (.inl (some (.long (zen (Int32.ofNat (zho (zpj j) F 8), 0))))) (zh (P, T, Y) I A w)) :
    ∀ n, n ≤ 8 → zW zm_62 6 [some (.ref (4 * j)), some (.ref (4 * j + 3)), some (.long (Int64.ofNat (zho (zpj j) F (8 - n)))), none, some (.int (zpre n))] [] p (zh (P, T, Y) I A w) Q := by
  have hq := zprm_lt (zpj_p h1 h4)
  have hpw := zpw_lt (zpj_p h1 h4)
  have hn := zpj_n h1 h4
  intro n
  induction n with
  | zero =>
    intro _
    refine b62t_6 h1 h4 ⟨fun _ => ?_, fun h => absurd (show zpre 0 < 0 by decide) h⟩
    have := zho_lt (p := zpj j) (by omega) F 8
    rw [ze64_n, zLN32 (by show zho (zpj j) F 8 < _; omega)]
    exact H
  | succ n ih =>
    intro hn8
    rw [zpre_s]
    refine b62t_6 h1 h4 ⟨fun h => absurd h (zN_ge0 (by omega)), fun h k hk e => ?_⟩
    have e := zN_inj (by omega) hk e
    subst e
    refine ⟨by omega, hn, ?_⟩
    have hm := Nat.mod_lt (F n) (show 0 < zpj j by omega)
    rw [hF n (by omega), zN_r rfl rfl (hl n (by omega)) (by omega), zNL (by omega), zNL (by omega), ← Int64.ofNat_mul, ← Int64.ofNat_add, zpre_m]
    have e : zho (zpj j) F (8 - (n + 1)) * zpj j + F n % zpj j = zho (zpj j) F (8 - n) := by
      rw [show 8 - n = (8 - (n + 1)) + 1 by omega]
      simp only [zho]
      rw [show 7 - (8 - (n + 1)) = n by omega]
    rw [e]
    exact ih (by omega)
theorem s62t {P : zPt} {T : Nat → zX} {Y : zYt} {I : zIt} {A : zAt} {w : Nat → Int64} {p : Nat × Nat} {Q : zR → zH → Prop} {j : Nat} {F : Nat → Nat} (h1 : 1 ≤ j) (h4 : j ≤ 4) (hF : ∀ k, k < 8 → (P j).2.2 k = Int32.ofNat (F k)) (hl : ∀ k, k < 8 → F k < 2147483648) (H : Q (.inl (some (.long (zen (Int32.ofNat (zho (zpj j) F 8), 0))))) (zh (P, T, Y) I A w)) :
    zT zm_62 [.ref (4 * j), .ref (4 * j + 3)] p (zh (P, T, Y) I A w) Q := b62t (l62t h1 h4 hF hl H 8 (Nat.le_refl _))
theorem l66 {P : zPt} {T : Nat → zX} {Y : zYt} {I : zIt} {A : zAt} {w : Nat → Int64} {p : Nat × Nat} {Q : zR → zH → Prop} {j v : Nat} (h1 : 1 ≤ j) (h4 : j ≤ 4) (h0 : 0 < v) (hv : v < zpj j) (H : Q (.inl (some (.int (Int32.ofNat (zivP (zpj j) v))))) (zh (P, T, Y) I A w)) : ∀ (n x : Nat), x + n = zivP (zpj j) v → 1 ≤ x → zW zm_66 2 [some (.ref (4 * j)), some (.int (Int32.ofNat v)), some (.int (Int32.ofNat x))] [] p (zh (P, T, Y) I A w) Q := by
  obtain ⟨g1, g2, g3, g4⟩ := zivP_ok (zpj_p h1 h4) h0 hv
  have hq7 := zprm_lt (zpj_p h1 h4)
  intro n
  induction n with
  | zero =>
    intro x hx hx1
    have hb : x * v < 2147483648 := Nat.lt_of_le_of_lt (Nat.mul_le_mul (show x ≤ 7 by omega) (Nat.le_of_lt hv)) (by omega)
    refine b66_2 h1 h4 ⟨by omega, by omega, fun h => by omega, fun _ => ⟨by omega, hb, Nat.lt_of_le_of_lt (Nat.mod_le _ _) hb, fun h2 => ?_, fun h2 => ?_⟩⟩
    · rw [← hx] at g3; rw [Nat.mul_comm] at h2; exact absurd g3 h2
    · rw [← hx] at H; exact H
  | succ n ih =>
    intro x hx hx1
    have hb : x * v < 2147483648 := Nat.lt_of_le_of_lt (Nat.mul_le_mul (show x ≤ 7 by omega) (Nat.le_of_lt hv)) (by omega)
    refine b66_2 h1 h4 ⟨by omega, by omega, fun h => by omega, fun _ => ⟨by omega, hb, Nat.lt_of_le_of_lt (Nat.mod_le _ _) hb, fun h2 => ih (x + 1) (by omega) (by omega), fun h2 => ?_⟩⟩
    rw [Nat.mul_comm] at h2
    exact absurd h2 (g4 x hx1 (by omega))
theorem s66 {P : zPt} {T : Nat → zX} {Y : zYt} {I : zIt} {A : zAt} {w : Nat → Int64} {p : Nat × Nat} {Q : zR → zH → Prop} {j v : Nat} (h1 : 1 ≤ j) (h4 : j ≤ 4) (h0 : 0 < v) (hv : v < zpj j) (H : Q (.inl (some (.int (Int32.ofNat (zivP (zpj j) v))))) (zh (P, T, Y) I A w)) : zT zm_66 [.ref (4 * j), .int (Int32.ofNat v)] p (zh (P, T, Y) I A w) Q := by
  obtain ⟨g1, g2, g3, g4⟩ := zivP_ok (zpj_p h1 h4) h0 hv
  exact b66 (l66 h1 h4 h0 hv H (zivP (zpj j) v - 1) 1 (by omega) (by omega))
/-- size, normalizer, inverse -/
theorem c63 {P : zPt} {T : Nat → zX} {Y : zYt} {I : zIt} {A : zAt} {w : Nat → Int64} {p : Nat × Nat} {Q : zR → zH → Prop} {j v : Nat} (h1 : 1 ≤ j) (h4 : j ≤ 4) (hv : v < zpj j ^ 8) (H : ∀ P', Q (.inl (some (.long (zszP (zpj j) v)))) (zh (P', T, Y) I A w)) : zT zm_63 [.ref (4 * j), .long (zen (Int32.ofNat v, 0))] p (zh (P, T, Y) I A w) Q := by
  have hpw := zpw_lt (zpj_p h1 h4)
  refine b63 h1 h4 (s61t h1 h4 (v := v) (by omega) (zfi_n _) (fun P' _ _ _ => b63_10 ?_))
  have h : ∀ n, n < 9 → (Int32.ofNat 1 + zpre n).toInt64 = (1 : Int64) + (zpre n).toInt64 := by decide
  rw [h _ (by have := zdn_le (zcf (zpj j) v) 8; omega)]
  exact H P'
theorem c68 {P : zPt} {T : Nat → zX} {Y : zYt} {I : zIt} {A : zAt} {w : Nat → Int64} {p : Nat × Nat} {Q : zR → zH → Prop} {j v : Nat} (h1 : 1 ≤ j) (h4 : j ≤ 4) (hv : v < zpj j ^ 8) (H : ∀ P', Q (.inl (some (.long (zen (znrm (zpj j) (Int32.ofNat v, 0)))))) (zh (P', T, Y) I A w)) : zT zm_68 [.ref (4 * j), .long (zen (Int32.ofNat v, 0))] p (zh (P, T, Y) I A w) Q := by
  have hq := zpj_p h1 h4
  have hq7 := zprm_lt hq
  have hpw := zpw_lt hq
  have hD := zdn_le (zcf (zpj j) v) 8
  rw [znrm_p hq hv] at H
  refine b68 h1 h4 (s61t h1 h4 (v := v) (by omega) (zfi_n _) (fun P' f1 _ _ => b68_9 h1 h4 ⟨fun h k hk e => ?_, fun h => ?_⟩))
  · obtain ⟨d, hd⟩ : ∃ d, zdn (zcf (zpj j) v) 8 = d + 1 := by
      refine ⟨zdn (zcf (zpj j) v) 8 - 1, ?_⟩
      by_cases h0 : zdn (zcf (zpj j) v) 8 = 0
      · rw [h0] at h; exact absurd h (by decide)
      · omega
    rw [hd, zpre_s] at e
    have e := zN_inj (by omega) hk e
    subst e
    rw [if_neg (by omega), hd, Nat.add_sub_cancel] at H
    have hlead : zcf (zpj j) v d ≠ 0 := by have := zdn_at (F := zcf (zpj j) v) (n := 8) (by omega); rw [hd] at this; exact this
    refine ⟨by omega, ?_⟩
    rw [f1 d (by omega)]
    refine s66 h1 h4 (by omega) (zcf_lt (by omega) v d) (b68_30 ?_)
    rw [ze64_n, z3264]
    exact H P'
  · have h0 : zdn (zcf (zpj j) v) 8 = 0 := by
      refine Classical.byContradiction (fun hn => h ?_)
      obtain ⟨d, hd⟩ : ∃ d, zdn (zcf (zpj j) v) 8 = d + 1 := ⟨zdn (zcf (zpj j) v) 8 - 1, by omega⟩
      rw [hd, zpre_s]
      exact z0le (zN_ge0 (by omega))
    rw [if_pos h0, zen_1] at H
    exact H P'
/-- the inverse of a unit -/
def zinv (r : Nat) (f : zE2) : zE2 := match r with
  | 0 => f
  | 1 => (f.1, -f.2)
  | q => (Int32.ofNat (zivP q f.1.toNatClampNeg), 0)
theorem zinv_p {q : Nat} (hq : zprm q) {v : Nat} (hv : v < q) : zinv q (Int32.ofNat v, 0) = (Int32.ofNat (zivP q v), 0) := by
  have hq7 := zprm_lt hq
  have e : (Int32.ofNat v).toNatClampNeg = v := zN_cl (show v < 2147483648 by omega) (Nat.le_refl _)
  rcases hq with rfl | rfl | rfl | rfl <;> simp only [zinv, e]
theorem c65 {P : zPt} {T : Nat → zX} {Y : zYt} {I : zIt} {A : zAt} {w : Nat → Int64} {p : Nat × Nat} {Q : zR → zH → Prop} {j v : Nat} (h1 : 1 ≤ j) (h4 : j ≤ 4) (h0 : 0 < v) (hv : v < zpj j) (H : Q (.inl (some (.long (zen (zinv (zpj j) (Int32.ofNat v, 0)))))) (zh (P, T, Y) I A w)) : zT zm_65 [.ref (4 * j), .long (zen (Int32.ofNat v, 0))] p (zh (P, T, Y) I A w) Q := by
  rw [zinv_p (zpj_p h1 h4) hv] at H
  refine b65 h1 h4 ?_
  rw [zfi_n]
  refine s66 h1 h4 h0 hv (b65_8 ?_)
  rw [ze64_n, z3264]
  exact H
theorem c20 {P : zPt} {T : Nat → zX} {Y : zYt} {I : zIt} {A : zAt} {w : Nat → Int64} {p : Nat × Nat} {Q : zR → zH → Prop} {a : zE2} (H : Q (.inl (some (.long (zen (zinv 0 a))))) (zh (P, T, Y) I A w)) : zT zm_20 [.ref 1, .long (zen a)] p (zh (P, T, Y) I A w) Q := b20 H
theorem c5 {P : zPt} {T : Nat → zX} {Y : zYt} {I : zIt} {A : zAt} {w : Nat → Int64} {p : Nat × Nat} {Q : zR → zH → Prop} {a : zE2} (H : Q (.inl (some (.long (zen (zinv 1 a))))) (zh (P, T, Y) I A w)) : zT zm_5 [.ref 3, .long (zen a)] p (zh (P, T, Y) I A w) Q := by
  refine b5 ?_
  rw [zfi_n, zse_n, ze64_n, z3264, z3264]
  exact H
theorem l64 {T : Nat → zX} {Y : zYt} {I : zIt} {A : zAt} {w : Nat → Int64} {p : Nat × Nat} {Q : zR → zH → Prop} {j v : Nat} (h1 : 1 ≤ j) (h4 : j ≤ 4) (hv : v < zpj j ^ 8) (H : ∀ P', Q (.inl (some (.long (zen (Int32.ofNat (zngP (zpj j) v), 0))))) (zh (P', T, Y) I A w)) :
    ∀ (n x : Nat) (P : zPt), x + n = 8 → (∀ k, k < 8 → (P j).2.2 k = Int32.ofNat (if k < x then zpj j - zcf (zpj j) v k else zcf (zpj j) v k)) → zW zm_64 12 [some (.ref (4 * j)), none, none, some (.int (Int32.ofNat x))] [] p (zh (P, T, Y) I A w) Q := by
  have hq7 := zprm_lt (zpj_p h1 h4)
  intro n
  induction n with
  | zero =>
    intro x P hx f1
    refine b64_12 h1 h4 ⟨by omega, fun _ => s62t (F := fun k => zpj j - zcf (zpj j) v k) h1 h4 (fun k hk => by rw [f1 k hk, if_pos (by omega)]) (fun k _ => by omega) (b64_49 (H P)), fun h => by omega⟩
  | succ n ih =>
    intro x P hx f1
    refine b64_12 h1 h4 ⟨by omega, fun h => by omega, fun _ => ⟨by omega, ih (x + 1) _ (by omega) (fun k hk => ?_)⟩⟩
    rw [va_up_self]
    show va_up (P j).2.2 x _ k = _
    have hc := zcf_lt (p := zpj j) (by omega) v x
    by_cases hkx : k = x
    · subst hkx
      rw [va_up_self, f1 k hk, if_neg (by omega), if_pos (by omega), zN_sb rfl rfl (by omega)]
    · rw [va_up_ne _ _ hkx, f1 k hk]
      by_cases hk2 : k < x
      · rw [if_pos hk2, if_pos (by omega)]
      · rw [if_neg hk2, if_neg (by omega)]
theorem c64 {P : zPt} {T : Nat → zX} {Y : zYt} {I : zIt} {A : zAt} {w : Nat → Int64} {p : Nat × Nat} {Q : zR → zH → Prop} {j v : Nat} (h1 : 1 ≤ j) (h4 : j ≤ 4) (hv : v < zpj j ^ 8) (H : ∀ P', Q (.inl (some (.long (zen (zneg (zpj j) (Int32.ofNat v, 0)))))) (zh (P', T, Y) I A w)) : zT zm_64 [.ref (4 * j), .long (zen (Int32.ofNat v, 0))] p (zh (P, T, Y) I A w) Q := by
  have hpw := zpw_lt (zpj_p h1 h4)
  rw [zneg_p (zpj_p h1 h4) hv] at H
  refine b64 h1 h4 (s61t h1 h4 (v := v) (by omega) (zfi_n _) (fun P' f1 _ _ => b64_9 (l64 h1 h4 hv H 8 0 P' rfl (fun k hk => by rw [f1 k hk, if_neg (by omega)]))))
