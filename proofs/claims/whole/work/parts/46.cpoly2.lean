/-! THE CLASS'S POLYNOMIALS: sum with a product, quotient, residues -/
theorem zmulp {q : Nat} (hq : zprm q) {x y : Nat} (hx : x < q) (hy : y < q) (h1 : x ≠ 0) (h2 : y ≠ 0) : x * y % q ≠ 0 := by
  have all : ∀ q, (q = 2 ∨ q = 3 ∨ q = 5 ∨ q = 7) → ∀ g, g < q → ∀ c, c < q → g ≠ 0 → c ≠ 0 → g * c % q ≠ 0 := by
    intro q hq
    rcases hq with rfl | rfl | rfl | rfl <;> decide
  exact all q hq x hx y hy h1 h2
theorem zplP_deg {q a f b : Nat} (hq : zprm q) (hf : f < q ^ 8) (hb : b < q ^ 8) (hf0 : f ≠ 0) (hb0 : b ≠ 0) : 8 < zdn (zcC q a f b) 16 ↔ 10 ≤ zdn (zcf q f) 8 + zdn (zcf q b) 8 := by
  have hq7 := zprm_lt hq
  have hF := zcf_nz (p := q) (by omega) hf hf0
  have hB := zcf_nz (p := q) (by omega) hb hb0
  have hF8 := zdn_le (zcf q f) 8
  have hB8 := zdn_le (zcf q b) 8
  have aF := zdn_at hF
  have aB := zdn_at hB
  constructor
  · intro h
    refine Classical.byContradiction (fun hn => ?_)
    have hat := zdn_at (F := zcC q a f b) (n := 16) (by omega)
    have hle := zdn_le (zcC q a f b) 16
    obtain ⟨k, hk⟩ : ∃ k, zdn (zcC q a f b) 16 = k + 1 := ⟨zdn (zcC q a f b) 16 - 1, by omega⟩
    rw [hk, Nat.add_sub_cancel] at hat
    apply hat
    unfold zcC
    rw [if_neg (by omega), zcs_zero (fun i hi h1 h2 => ?_)]
    · simp
    · by_cases h3 : zdn (zcf q f) 8 ≤ i
      · rw [zdn_top h3 hi, Nat.zero_mul]
      · rw [zdn_top (F := zcf q b) (n := 8) (k := k - i) (by omega) (by omega), Nat.mul_zero]
  · intro h
    have e : zcs (zcf q f) (zcf q b) 8 (zdn (zcf q f) 8 - 1 + (zdn (zcf q b) 8 - 1)) = zcf q f (zdn (zcf q f) 8 - 1) * zcf q b (zdn (zcf q b) 8 - 1) := by
      rw [zcs_one (a := zdn (zcf q f) 8 - 1) (by omega) (by omega) (by omega) (fun i hi hne h1 h2 => ?_)]
      · rw [Nat.add_sub_cancel_left]
      · by_cases h3 : zdn (zcf q f) 8 ≤ i
        · rw [zdn_top h3 hi, Nat.zero_mul]
        · rw [zdn_top (F := zcf q b) (n := 8) (k := zdn (zcf q f) 8 - 1 + (zdn (zcf q b) 8 - 1) - i) (by omega) (by omega), Nat.mul_zero]
    have hz : zcC q a f b (zdn (zcf q f) 8 - 1 + (zdn (zcf q b) 8 - 1)) ≠ 0 := by
      unfold zcC
      rw [if_neg (by omega), e, Nat.add_zero, Nat.mod_mod]
      exact zmulp hq (zcf_lt (by omega) _ _) (zcf_lt (by omega) _ _) aF aB
    have := zdn_gt (n := 16) (by omega) hz
    omega
theorem zplus_zf {q : Nat} (hq : zprm q) {a b : Nat} (ha : a < q ^ 8) (hb : b < q ^ 8) : zplus q (Int32.ofNat a, 0) (0, 0) (Int32.ofNat b, 0) = some (Int32.ofNat a, 0) := by
  have hq7 := zprm_lt hq
  have e := zplus_p hq ha (f := 0) (Nat.pow_pos (by omega)) hb
  rw [show ((Int32.ofNat 0, (0 : Int32)) : zE2) = (0, 0) from rfl] at e
  rw [e]
  have hC : ∀ k, zcC q a 0 b k = if k < 8 then zcf q a k else 0 := by
    intro k
    unfold zcC
    rw [zcs_zero (fun i _ _ _ => by rw [zcf_0, Nat.zero_mul]), Nat.zero_mod, Nat.zero_add]
    split
    · exact Nat.mod_eq_of_lt (zcf_lt (by omega) a k)
    · exact Nat.zero_mod q
  have h8 : ¬ 8 < zdn (zcC q a 0 b) 16 := by
    intro h8
    have := zdn_at (F := zcC q a 0 b) (n := 16) (by omega)
    rw [hC, if_neg (by omega)] at this
    exact this rfl
  unfold zplP
  rw [if_neg h8]
  have : zho q (zcC q a 0 b) 8 = a := by
    rw [zho_congr (G := zcf q a) (Nat.le_refl _) (fun k hk => by rw [hC k, if_pos hk]), zho_id ha]
  rw [this]
  rfl
theorem l60i {T : Nat → zX} {Y : zYt} {I : zIt} {A : zAt} {w : Nat → Int64} {p : Nat × Nat} {Q : zR → zH → Prop} {j a f b i : Nat} (h1 : 1 ≤ j) (h4 : j ≤ 4) (hi : i < 8)
    (H : ∀ P', (∀ k, k < 8 → (P' j).1 k = Int32.ofNat (zcf (zpj j) f k)) → (∀ k, k < 8 → (P' j).2.1 k = Int32.ofNat (zcf (zpj j) b k)) → (∀ k, k < 8 → (P' j).2.2 k = Int32.ofNat (zcf (zpj j) a k + zcs (zcf (zpj j) f) (zcf (zpj j) b) (i + 1) k)) → zW zm_60 67 [some (.ref (4 * j)), none, none, none, none, none, none, none, some (.int (Int32.ofNat (i + 1))), none] [] p (zh (P', T, Y) I A w) Q) :
    ∀ (n y : Nat) (P : zPt), i + y + n = 8 → (∀ k, k < 8 → (P j).1 k = Int32.ofNat (zcf (zpj j) f k)) → (∀ k, k < 8 → (P j).2.1 k = Int32.ofNat (zcf (zpj j) b k)) → (∀ k, k < 8 → (P j).2.2 k = Int32.ofNat (zcf (zpj j) a k + zcj (zcf (zpj j) f) (zcf (zpj j) b) i y k)) →
    zW zm_60 77 [some (.ref (4 * j)), none, none, none, none, none, none, none, some (.int (Int32.ofNat i)), some (.int (Int32.ofNat y))] [] p (zh (P, T, Y) I A w) Q := by
  intro n
  induction n with
  | zero =>
    intro y P hy f1 f2 f3
    refine b60_77 h1 h4 ⟨by omega, fun _ => H P f1 f2 (fun k hk => by rw [f3 k hk, zcj_e (by omega) (by omega)]), fun h => by omega⟩
  | succ n ih =>
    intro y P hy f1 f2 f3
    refine b60_77 h1 h4 ⟨by omega, fun h => by omega, fun _ => ⟨by omega, by omega, by omega, ih (y + 1) _ (by omega) (by rw [va_up_self]; exact f1) (by rw [va_up_self]; exact f2) (fun k hk => ?_)⟩⟩
    rw [va_up_self]
    show va_up (P j).2.2 (i + y) _ k = _
    rw [zcj_s]
    by_cases hky : k = i + y
    · subst hky
      rw [va_up_self, f3 _ hk, f1 i (by omega), f2 y (by omega), if_pos rfl, zN_a rfl (zN_m rfl rfl), Nat.add_assoc]
    · rw [va_up_ne _ _ hky, f3 k hk, if_neg hky]
theorem l60o {T : Nat → zX} {Y : zYt} {I : zIt} {A : zAt} {w : Nat → Int64} {p : Nat × Nat} {Q : zR → zH → Prop} {j a f b : Nat} (h1 : 1 ≤ j) (h4 : j ≤ 4) (H : ∀ P', Q (.inl (some (.long (zen (Int32.ofNat (zho (zpj j) (zcC (zpj j) a f b) 8), 0))))) (zh (P', T, Y) I A w)) :
    ∀ (n i : Nat) (P : zPt), i + n = 8 → (∀ k, k < 8 → (P j).1 k = Int32.ofNat (zcf (zpj j) f k)) → (∀ k, k < 8 → (P j).2.1 k = Int32.ofNat (zcf (zpj j) b k)) → (∀ k, k < 8 → (P j).2.2 k = Int32.ofNat (zcf (zpj j) a k + zcs (zcf (zpj j) f) (zcf (zpj j) b) i k)) →
    zW zm_60 67 [some (.ref (4 * j)), none, none, none, none, none, none, none, some (.int (Int32.ofNat i)), none] [] p (zh (P, T, Y) I A w) Q := by
  have hq7 := zprm_lt (zpj_p h1 h4)
  intro n
  induction n with
  | zero =>
    intro i P hi f1 f2 f3
    have : i = 8 := by omega
    subst this
    refine b60_67 h1 h4 ⟨by omega, fun _ => s62t (F := fun k => zcf (zpj j) a k + zcs (zcf (zpj j) f) (zcf (zpj j) b) 8 k) h1 h4 f3 (fun k _ => ?_) (b60_135 ?_), fun h => by omega⟩
    · have g1 := zcf_lt (p := zpj j) (by omega) a k
      have g2 := zcs_lt (f := zcf (zpj j) f) (b := zcf (zpj j) b) (q := zpj j) (fun k => zcf_lt (by omega) f k) (fun k => zcf_lt (by omega) b k) 8 k
      have g3 : zpj j * zpj j ≤ 7 * 7 := Nat.mul_le_mul hq7.2 hq7.2
      show zcf (zpj j) a k + zcs (zcf (zpj j) f) (zcf (zpj j) b) 8 k < 2147483648
      omega
    · rw [zho_congr (G := zcC (zpj j) a f b) (Nat.le_refl _) (fun k hk => ?_)]
      · exact H P
      · unfold zcC
        rw [if_pos hk, Nat.mod_mod, Nat.mod_add_mod, Nat.add_comm]
  | succ n ih =>
    intro i P hi f1 f2 f3
    refine b60_67 h1 h4 ⟨by omega, fun h => by omega, fun _ => ?_⟩
    exact l60i h1 h4 (by omega) (fun P' g1 g2 g3 => ih (i + 1) P' (by omega) g1 g2 g3) (8 - i) 0 P (by omega) f1 f2 (fun k hk => by rw [f3 k hk, zcj_0])
theorem c60 {P : zPt} {T : Nat → zX} {Y : zYt} {I : zIt} {A : zAt} {w : Nat → Int64} {p : Nat × Nat} {Q : zR → zH → Prop} {j a f b : Nat} (h1 : 1 ≤ j) (h4 : j ≤ 4) (ha : a < zpj j ^ 8) (hf : f < zpj j ^ 8) (hb : b < zpj j ^ 8) (H1 : ∀ v, zplus (zpj j) (Int32.ofNat a, 0) (Int32.ofNat f, 0) (Int32.ofNat b, 0) = some v → ∀ P', Q (.inl (some (.long (zen v)))) (zh (P', T, Y) I A w)) (H2 : zplus (zpj j) (Int32.ofNat a, 0) (Int32.ofNat f, 0) (Int32.ofNat b, 0) = none → ∀ P', Q (.inr 3) (zh (P', T, Y) I A w)) :
    zT zm_60 [.ref (4 * j), .long (zen (Int32.ofNat a, 0)), .long (zen (Int32.ofNat f, 0)), .long (zen (Int32.ofNat b, 0))] p (zh (P, T, Y) I A w) Q := by
  have hq := zpj_p h1 h4
  have hq7 := zprm_lt hq
  have hpw := zpw_lt hq
  have nz : ∀ {v : Nat}, v < zpj j ^ 8 → (zen (Int32.ofNat v, 0) = 0 ↔ v = 0) := by
    intro v hv
    rw [zen_z]
    exact ⟨fun h => (zN_0 (by omega)).mp (congrArg Prod.fst h), fun h => by rw [h]; rfl⟩
  refine b60 h1 h4 ⟨fun h => ?_, fun hf0 => ⟨fun hb0 => ?_, fun h => ?_⟩⟩
  · have : f = 0 := (nz hf).mp h
    subst this
    exact H1 _ (zplus_zf hq ha hb) P
  · have hf0 : f ≠ 0 := fun h => hf0 ((nz hf).mpr h)
    have hb0 : b ≠ 0 := fun h => hb0 ((nz hb).mpr h)
    have hF := zcf_nz (p := zpj j) (by omega) hf hf0
    have hB := zcf_nz (p := zpj j) (by omega) hb hb0
    have hF8 := zdn_le (zcf (zpj j) f) 8
    have hB8 := zdn_le (zcf (zpj j) b) 8
    have hdeg := zplP_deg (a := a) hq hf hb hf0 hb0
    rw [zplus_p hq ha hf hb] at H1 H2
    unfold zplP at H1 H2
    refine s61l h1 h4 (v := f) (by omega) (zfi_n _) (fun P1 f1 _ _ => b60_24 h1 h4 (s61r h1 h4 (v := b) (by omega) (zfi_n _) (fun P2 g1 g2 _ => b60_34 h1 h4 ?_)))
    obtain ⟨x, hx⟩ : ∃ x, zdn (zcf (zpj j) f) 8 = x + 1 := ⟨zdn (zcf (zpj j) f) 8 - 1, by omega⟩
    obtain ⟨y, hy⟩ : ∃ y, zdn (zcf (zpj j) b) 8 = y + 1 := ⟨zdn (zcf (zpj j) b) 8 - 1, by omega⟩
    rw [hx, hy, zpre_s, zpre_s, zN_a rfl rfl, show (8 : Int32) = Int32.ofNat 8 from rfl, Int32.lt_iff_toInt_lt, zN_i (by omega), zN_i (by omega)]
    refine ⟨fun hlt => ?_, fun hge => ?_⟩
    · rw [if_neg (by omega)] at H1
      refine s61t h1 h4 (v := a) (by omega) (zfi_n _) (fun P3 k1 k2 k3 => b60_63 (l60o h1 h4 (fun P' => H1 _ rfl P') 8 0 P3 rfl (fun k hk => by rw [k2, g2]; exact f1 k hk) (fun k hk => by rw [k3]; exact g1 k hk) (fun k hk => by rw [k1 k hk]; rfl)))
    · rw [if_pos (by omega)] at H2
      exact H2 rfl P2
  · have : b = 0 := (nz hb).mp h
    subst this
    exact H1 _ (zplus_z (Or.inr (Or.inr (by unfold zprm at hq; omega))) ((zok_p hq).mpr ⟨a, ha, rfl⟩) ((zok_p hq).mpr ⟨f, hf, rfl⟩)) P
theorem s284l {P : zPt} {T : Nat → zX} {Y : zYt} {I : zIt} {A : zAt} {w : Nat → Int64} {p : Nat × Nat} {Q : zR → zH → Prop} {j : Nat} (h1 : 1 ≤ j) (h4 : j ≤ 4) (H : ∀ P', (∀ k, k < 8 → (P' j).1 k = 0) → (P' j).2.1 = (P j).2.1 → (P' j).2.2 = (P j).2.2 → Q (.inl none) (zh (P', T, Y) I A w)) : zT zm_284 [.ref (4 * j + 1), .int 0] p (zh (P, T, Y) I A w) Q := by
  have l : ∀ (n x : Nat) (P' : zPt), x + n = 8 → (∀ k, k < x → (P' j).1 k = 0) → (P' j).2.1 = (P j).2.1 → (P' j).2.2 = (P j).2.2 → zW zm_284 5 [some (.ref (4 * j + 1)), some (.int 0), some (.int (Int32.ofNat x)), some (.int (Int32.ofNat 8))] [] p (zh (P', T, Y) I A w) Q := by
    intro n
    induction n with
    | zero => intro x P' hx f1 f2 f3; exact b284l_5 h1 h4 ⟨by omega, by omega, fun _ => H P' (fun k hk => f1 k (by omega)) f2 f3, fun h => by omega⟩
    | succ n ih =>
      intro x P' hx f1 f2 f3
      refine b284l_5 h1 h4 ⟨by omega, by omega, fun h => by omega, fun _ => ⟨by omega, ih (x + 1) _ (by omega) (fun k hk => ?_) (by rw [va_up_self]; exact f2) (by rw [va_up_self]; exact f3)⟩⟩
      rw [va_up_self]
      show va_up (P' j).1 x 0 k = 0
      by_cases hkx : k = x
      · subst hkx; rw [va_up_self]
      · rw [va_up_ne _ _ hkx]; exact f1 k (by omega)
  exact b284l h1 h4 (l 8 0 P rfl (fun k hk => by omega) rfl rfl)
theorem l67i {T : Nat → zX} {Y : zYt} {I : zIt} {A : zAt} {w : Nat → Int64} {p : Nat × Nat} {Q : zR → zH → Prop} {j b d c k iv : Nat} {t u : Nat → Nat} (h1 : 1 ≤ j) (h4 : j ≤ 4) (hd : d < 8) (hk : k + d < 8) (hc : c < zpj j) (ht : ∀ i, t i < zpj j)
    (H : ∀ P', (∀ i, i < 8 → (P' j).1 i = Int32.ofNat (u i)) → (∀ i, i < 8 → (P' j).2.1 i = Int32.ofNat (zcf (zpj j) b i)) → (∀ i, i < 8 → (P' j).2.2 i = Int32.ofNat (zdvS (zpj j) (zcf (zpj j) b) d c k (d + 1) t i)) → zW zm_67 61 [some (.ref (4 * j)), none, none, none, none, some (.int (Int32.ofNat d)), some (.int (Int32.ofNat iv)), some (.int (zpre k)), none, none] [] p (zh (P', T, Y) I A w) Q) :
    ∀ (n y : Nat) (P : zPt), y + n = d + 1 → (∀ i, i < 8 → (P j).1 i = Int32.ofNat (u i)) → (∀ i, i < 8 → (P j).2.1 i = Int32.ofNat (zcf (zpj j) b i)) → (∀ i, i < 8 → (P j).2.2 i = Int32.ofNat (zdvS (zpj j) (zcf (zpj j) b) d c k y t i)) →
    zW zm_67 98 [some (.ref (4 * j)), none, none, none, none, some (.int (Int32.ofNat d)), some (.int (Int32.ofNat iv)), some (.int (Int32.ofNat k)), some (.int (Int32.ofNat c)), some (.int (Int32.ofNat y))] [] p (zh (P, T, Y) I A w) Q := by
  have hq7 := zprm_lt (zpj_p h1 h4)
  have hn := zpj_n h1 h4
  intro n
  induction n with
  | zero =>
    intro y P hy f1 f2 f3
    have : y = d + 1 := by omega
    subst this
    exact b67_98 h1 h4 ⟨fun _ => H P f1 f2 f3, fun h => absurd (show Int32.ofNat d < Int32.ofNat (d + 1) by rw [Int32.lt_iff_toInt_lt, zN_i (by omega), zN_i (by omega)]; omega) h⟩
  | succ n ih =>
    intro y P hy f1 f2 f3
    refine b67_98 h1 h4 ⟨fun h => ?_, fun _ => ⟨by omega, by omega, hn, ?_⟩⟩
    · rw [Int32.lt_iff_toInt_lt, zN_i (by omega), zN_i (by omega)] at h; omega
    · have g1 := zdvS_lt (q := zpj j) (by omega) (b := zcf (zpj j) b) (d := d) (c := c) (k := k) (n := y) (ht (k + y))
      have g2 : (zpj j - c) * zcf (zpj j) b y ≤ 7 * 7 := Nat.mul_le_mul (by omega) (by have := zcf_lt (p := zpj j) (by omega) b y; omega)
      rw [f3 (k + y) (by omega), f2 y (by omega), zN_sb rfl rfl (Nat.le_of_lt hc), zN_r (zN_a rfl (zN_m rfl rfl)) rfl (by omega) (by omega)]
      refine ih (y + 1) _ (by omega) (by rw [va_up_self]; exact f1) (by rw [va_up_self]; exact f2) (fun i hi => ?_)
      rw [va_up_self]
      show va_up (P j).2.2 (k + y) _ i = _
      rw [zdvS_s]
      by_cases hiy : i = k + y
      · subst hiy; rw [va_up_self, if_pos rfl]
      · rw [va_up_ne _ _ hiy, if_neg hiy]; exact f3 i hi
theorem l67o {T : Nat → zX} {Y : zYt} {I : zIt} {A : zAt} {w : Nat → Int64} {p : Nat × Nat} {Q : zR → zH → Prop} {j b d iv : Nat} (h1 : 1 ≤ j) (h4 : j ≤ 4) (hd : d < 8) (hiv : iv < zpj j) :
    ∀ (n : Nat) (P : zPt) (t u : Nat → Nat), n + d ≤ 8 → (∀ i, t i < zpj j) → (∀ i, i < 8 → (P j).1 i = Int32.ofNat (u i)) → (∀ i, i < 8 → (P j).2.1 i = Int32.ofNat (zcf (zpj j) b i)) → (∀ i, i < 8 → (P j).2.2 i = Int32.ofNat (t i)) →
    (∀ P', (∀ i, i < 8 → (P' j).1 i = Int32.ofNat ((zdvL (zpj j) (zcf (zpj j) b) d iv n (t, u)).2 i)) → zT zm_62 [.ref (4 * j), .ref (4 * j + 1)] p (zh (P', T, Y) I A w) (zK zm_67 166 [none, none, none, none, none, none, none, none, none, none] [] p Q)) →
    zW zm_67 61 [some (.ref (4 * j)), none, none, none, none, some (.int (Int32.ofNat d)), some (.int (Int32.ofNat iv)), some (.int (zpre n)), none, none] [] p (zh (P, T, Y) I A w) Q := by
  have hq7 := zprm_lt (zpj_p h1 h4)
  have hn := zpj_n h1 h4
  intro n
  induction n with
  | zero => intro P t u _ ht f1 f2 f3 H; exact b67_61 h1 h4 ⟨fun _ => H P f1, fun h => absurd (show zpre 0 < 0 by decide) h⟩
  | succ n ih =>
    intro P t u hnd ht f1 f2 f3 H
    rw [zpre_s]
    refine b67_61 h1 h4 ⟨fun h => absurd h (zN_ge0 (by omega)), fun h k hk e => ?_⟩
    have e := zN_inj (by omega) hk e
    subst e
    refine ⟨n + d, zN_a rfl rfl, by omega, hn, by omega, ?_⟩
    have g1 : t (n + d) * iv ≤ 7 * 7 := Nat.mul_le_mul (by have := ht (n + d); omega) (by omega)
    rw [f3 (n + d) (by omega), zN_r (zN_m rfl rfl) rfl (by omega) (by omega)]
    refine l67i (t := t) (u := va_up u n (t (n + d) * iv % zpj j)) h1 h4 hd (by omega) (Nat.mod_lt _ (by omega)) ht (fun P' k1 k2 k3 => ?_) (d + 1) 0 _ (by omega) (fun i hi => ?_) (by rw [va_up_self]; exact f2) (fun i hi => by rw [va_up_self, zdvS_0]; exact f3 i hi)
    · exact ih P' _ _ (by omega) (fun i => zdvS_lt (by omega) (ht i)) k1 k2 k3 H
    · rw [va_up_self]
      show va_up (P j).1 n _ i = _
      by_cases hin : i = n
      · subst hin; rw [va_up_self, va_up_self]
      · rw [va_up_ne _ _ hin, va_up_ne _ _ hin]; exact f1 i hi
theorem c67 {P : zPt} {T : Nat → zX} {Y : zYt} {I : zIt} {A : zAt} {w : Nat → Int64} {p : Nat × Nat} {Q : zR → zH → Prop} {j a b : Nat} (h1 : 1 ≤ j) (h4 : j ≤ 4) (ha : a < zpj j ^ 8) (hb : b < zpj j ^ 8) (hb0 : b ≠ 0) (H : ∀ P', Q (.inl (some (.long (zen (zquo (zpj j) (Int32.ofNat a, 0) (Int32.ofNat b, 0)))))) (zh (P', T, Y) I A w)) :
    zT zm_67 [.ref (4 * j), .long (zen (Int32.ofNat a, 0)), .long (zen (Int32.ofNat b, 0))] p (zh (P, T, Y) I A w) Q := by
  have hq := zpj_p h1 h4
  have hq7 := zprm_lt hq
  have hpw := zpw_lt hq
  have hD := zcf_nz (p := zpj j) (by omega) hb hb0
  have hD8 := zdn_le (zcf (zpj j) b) 8
  have hbz : zen (Int32.ofNat b, 0) ≠ 0 := fun h => hb0 ((zN_0 (by omega)).mp (congrArg Prod.fst (zen_z.mp h)))
  rw [zquo_p hq ha hb] at H
  refine b67 h1 h4 ⟨fun _ => s61t h1 h4 (v := a) (by omega) (zfi_n _) (fun P1 f1 _ _ => b67_17 h1 h4 (s61r h1 h4 (v := b) (by omega) (zfi_n _) (fun P2 g1 g2 g3 => b67_27 h1 h4 ?_))), fun h => absurd h hbz⟩
  obtain ⟨d, hd⟩ : ∃ d, zdn (zcf (zpj j) b) 8 = d + 1 := ⟨zdn (zcf (zpj j) b) 8 - 1, by omega⟩
  have hlead : zcf (zpj j) b d ≠ 0 := by have := zdn_at hD; rw [hd] at this; exact this
  have hmx : zmax (Int32.ofNat d) 0 = Int32.ofNat d := by unfold zmax; rw [decide_eq_false (zN_ge0 (by omega))]; rfl
  rw [hd, zpre_s, hmx]
  refine ⟨d, rfl, by omega, ?_⟩
  rw [g1 d (by omega)]
  have hiv := zivP_ok hq (show 0 < zcf (zpj j) b d by omega) (zcf_lt (by omega) b d)
  refine s66 h1 h4 (by omega) (zcf_lt (by omega) b d) (b67_44 h1 h4 (s284l h1 h4 (fun P3 k1 k2 k3 => b67_54 ?_)))
  rw [show (7 : Int32) - Int32.ofNat d = zpre (8 - d) by rw [show 8 - d = (7 - d) + 1 by omega, zpre_s]; exact zN_sb rfl rfl (by omega)]
  have hz : ∀ k, (zdvL (zpj j) (zcf (zpj j) b) d (zivP (zpj j) (zcf (zpj j) b d)) (8 - d) (zcf (zpj j) a, fun _ => 0)).2 k < zpj j := zdvL_q (by omega) _ _ (fun _ => by show 0 < zpj j; omega)
  refine l67o h1 h4 (by omega) hiv.2.1 (8 - d) P3 (zcf (zpj j) a) (fun _ => 0) (by omega) (fun i => zcf_lt (by omega) a i) (fun i hi => by rw [k1 i hi]; rfl) (fun i hi => by rw [k2]; exact g1 i hi) (fun i hi => by rw [k3, g3]; exact f1 i hi) (fun P' l1 => ?_)
  refine s62l (F := (zdvL (zpj j) (zcf (zpj j) b) d (zivP (zpj j) (zcf (zpj j) b d)) (8 - d) (zcf (zpj j) a, fun _ => 0)).2) h1 h4 l1 (fun k _ => by have := hz k; omega) (b67_166 ?_)
  have hqq : zqP (zpj j) a b = zho (zpj j) (zdvL (zpj j) (zcf (zpj j) b) d (zivP (zpj j) (zcf (zpj j) b d)) (8 - d) (zcf (zpj j) a, fun _ => 0)).2 8 := by
    unfold zqP
    rw [hd, Nat.add_sub_cancel, show 9 - (d + 1) = 8 - d by omega]
  rw [← hqq]
  exact H P'
/-- how many residues -/
def zrsP (q v : Nat) : Nat := q ^ (zdn (zcf q v) 8 - 1)
def zrsd (r : Nat) (a : zE2) : Int64 := if r < 2 then zsz r a else Int64.ofNat (zrsP r a.1.toNatClampNeg)
theorem zrsd_p {q : Nat} (hq : zprm q) {v : Nat} (hv : v < q ^ 8) : zrsd q (Int32.ofNat v, 0) = Int64.ofNat (zrsP q v) := by
  have hq7 := zprm_lt hq
  unfold zrsd
  rw [if_neg (by omega), show ((Int32.ofNat v, (0 : Int32)) : zE2).1 = Int32.ofNat v from rfl, zcl_p hq hv]
theorem c69 {P : zPt} {T : Nat → zX} {Y : zYt} {I : zIt} {A : zAt} {w : Nat → Int64} {p : Nat × Nat} {Q : zR → zH → Prop} {j v : Nat} (h1 : 1 ≤ j) (h4 : j ≤ 4) (hv : v < zpj j ^ 8) (h0 : v ≠ 0) (H : ∀ P', Q (.inl (some (.long (zrsd (zpj j) (Int32.ofNat v, 0))))) (zh (P', T, Y) I A w)) : zT zm_69 [.ref (4 * j), .long (zen (Int32.ofNat v, 0))] p (zh (P, T, Y) I A w) Q := by
  have hq := zpj_p h1 h4
  have hq7 := zprm_lt hq
  have hpw := zpw_lt hq
  have hD := zcf_nz (p := zpj j) (by omega) hv h0
  have hD8 := zdn_le (zcf (zpj j) v) 8
  rw [zrsd_p hq hv] at H
  refine b69 h1 h4 (s61t h1 h4 (v := v) (by omega) (zfi_n _) (fun P' _ _ _ => b69_9 ?_))
  obtain ⟨d, hd⟩ : ∃ d, zdn (zcf (zpj j) v) 8 = d + 1 := ⟨zdn (zcf (zpj j) v) 8 - 1, by omega⟩
  rw [show zrsP (zpj j) v = zpj j ^ d by unfold zrsP; rw [hd, Nat.add_sub_cancel]] at H
  rw [hd, zpre_s]
  have l : ∀ (n x : Nat), x + n = d → zW zm_69 16 [some (.ref (4 * j)), none, none, some (.int (Int32.ofNat d)), some (.long (Int64.ofNat (zpj j ^ x))), none, some (.int (Int32.ofNat x))] [] p (zh (P', T, Y) I A w) Q := by
    intro n
    induction n with
    | zero =>
      intro x hx
      have : x = d := by omega
      subst this
      exact b69_16 h1 h4 ⟨fun _ => H P', fun h => absurd ((zN_leI (by omega) (by omega)).mpr (Nat.le_refl _)) h⟩
    | succ n ih =>
      intro x hx
      refine b69_16 h1 h4 ⟨fun h => absurd ((zN_leI (by omega) (by omega)).mp h) (by omega), fun _ => ?_⟩
      rw [zNL (by omega), ← Int64.ofNat_mul, ← Nat.pow_succ]
      exact ih (x + 1) (by omega)
  exact l d 0 (by omega)
