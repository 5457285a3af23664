/-! TEXTS: the class writes elements -/
theorem s89 {P : zPt} {T : Nat → zX} {yc : Nat → Int32} {yl dp dw : Nat} {df : Int32} {dx : Bool} {dc : Nat → Int64} {I : zIt} {A : zAt} {w : Nat → Int64} {p : Nat × Nat} {Q : zR → zH → Prop} {n : Nat} {u : Nat → Int32} {c : Int32} (hn : n < 561) (H : Q (.inl none) (zh (P, T, (yc, yl), ((va_up u n c), (n + 1)), (dc, dp, df, dw, dx)) I A w)) : zT zm_89 [.ref 71, .int c] p (zh (P, T, (yc, yl), (u, n), (dc, dp, df, dw, dx)) I A w) Q :=
  b89 ⟨by omega, fun h => absurd h (Nat.not_lt_zero n), fun _ => ⟨fun h => absurd h (by omega), fun _ => ⟨hn, H⟩⟩⟩
theorem zLdN {a b : Nat} (ha : a < 9223372036854775808) (hb : b < 9223372036854775808) (hb0 : 0 < b) : Int64.ofNat a / Int64.ofNat b = Int64.ofNat (a / b) := by
  apply Int64.toInt_inj.mp
  have h1 : a / b ≤ a := Nat.div_le_self a b
  rw [zLd (by rw [zLN hb]; omega), zLN ha, zLN hb, zLN (by omega)]
  rfl
theorem zL_dig {N M : Nat} (hN : N < 9223372036854775808) (hM : M < 9223372036854775808) (hM0 : 0 < M) : ((Int64.ofNat N / Int64.ofNat M) - (Int64.ofNat N / Int64.ofNat M) / (10 : Int64) * (10 : Int64)).toInt32 = Int32.ofNat (N / M % 10) := by
  have h1 : N / M ≤ N := Nat.div_le_self N M
  rw [zLdN hN hM hM0, show (10 : Int64) = Int64.ofNat 10 from rfl, zLdN (by omega) (by omega) (by omega), ← Int64.ofNat_mul]
  generalize N / M = q at *
  rw [show Int64.ofNat q = Int64.ofNat (q % 10) + Int64.ofNat (q / 10 * 10) by rw [← Int64.ofNat_add]; congr 1; omega, Int64.add_sub_cancel, zLN32 (by omega)]
/-- appendNumber -/
theorem s91 {P : zPt} {T : Nat → zX} {yc : Nat → Int32} {yl dp dw : Nat} {df : Int32} {dx : Bool} {dc : Nat → Int64} {I : zIt} {A : zAt} {w : Nat → Int64} {p : Nat × Nat} {Q : zR → zH → Prop} {v : Int32} {n : Nat} {u : Nat → Int32} {L : List Int32} (h1 : -1000000000 ≤ v.toInt) (h2 : v.toInt ≤ 1000000000) (hW : zWL u n L) (hn : n + 11 ≤ 561) (H : ∀ n' u', zWL u' n' (L ++ zwn v) → Q (.inl none) (zh (P, T, (yc, yl), (u', n'), (dc, dp, df, dw, dx)) I A w)) : zT zm_91 [.ref 71, .int v] p (zh (P, T, (yc, yl), (u, n), (dc, dp, df, dw, dx)) I A w) Q := by
  generalize hN : v.toInt.natAbs = N at *
  have hN9 : N ≤ 1000000000 := by omega
  have p9 : ∀ k, k ≤ 9 → 10 ^ k ≤ 1000000000 := fun k hk => Nat.le_trans (Nat.pow_le_pow_right (by omega) hk) (by decide)
  have p0 : ∀ k, 0 < 10 ^ k := fun k => Nat.pow_pos (by decide)
  have dg : ∀ k, k ≤ 9 → ((Int64.ofNat N / Int64.ofNat (10 ^ k)) - (Int64.ofNat N / Int64.ofNat (10 ^ k)) / (10 : Int64) * (10 : Int64)).toInt32 = Int32.ofNat (N / 10 ^ k % 10) := fun k hk => by
    have := p9 k hk
    exact zL_dig (by omega) (by omega) (p0 k)
  have dv : ∀ k, k ≤ 9 → Int64.ofNat (10 ^ k) / (10 : Int64) = Int64.ofNat (10 ^ k / 10) := fun k hk => by
    have := p9 k hk
    exact zLdN (by omega) (show 10 < 9223372036854775808 by decide) (by decide)
  have nz : ∀ k, k ≤ 9 → ¬ Int64.ofNat (10 ^ k) ≤ 0 := fun k hk => by
    have := p9 k hk
    have := p0 k
    rw [Int64.le_iff_toInt_le, zLN (by omega), show Int64.toInt 0 = 0 from rfl]; omega
  have ne : ∀ k, k ≤ 9 → Int64.ofNat (10 ^ k) ≠ 0 := fun k hk h => nz k hk (by rw [h]; exact Int64.le_refl 0)
  have l1 : ∀ (k n : Nat) (u : Nat → Int32) (L' : List Int32), k ≤ 10 → n + k ≤ 561 → zWL u n L' → (∀ n' u', zWL u' n' (L' ++ zds N k) → Q (.inl none) (zh (P, T, (yc, yl), (u', n'), (dc, dp, df, dw, dx)) I A w)) → zW zm_91 30 [some (.ref 71), none, some (.long (Int64.ofNat N)), none, some (.int (Int32.ofNat 1)), some (.long (Int64.ofNat (10 ^ k / 10))), none, some (.int (zpre k)), none] [] p (zh (P, T, (yc, yl), (u, n), (dc, dp, df, dw, dx)) I A w) Q := by
    intro k
    induction k with
    | zero =>
      intro n u L' _ _ hW' H'
      rw [show zds N 0 = [] from rfl, List.append_nil] at H'
      exact b91_30 ⟨fun _ => H' n u hW', fun h => absurd (by decide) h⟩
    | succ k ih =>
      intro n u L' hk hn' hW' H'
      rw [zten, zpre_s]
      refine b91_30 ⟨fun h => absurd h (zN_ge0 (by omega)), fun _ k7 hk7 ek => ?_⟩
      have : k7 = k := (zN_inj (by omega) hk7 ek).symm
      subst this
      rw [dg k7 (by omega), show (48 : Int32) + Int32.ofNat (N / 10 ^ k7 % 10) = Int32.ofNat (48 + N / 10 ^ k7 % 10) from zN_a rfl rfl]
      refine ⟨fun h => absurd h (nz k7 (by omega)), fun _ => ⟨ne k7 (by omega), by omega, fun _ => s89 (by omega) (b91_89 ?_), fun h => absurd h (by omega)⟩⟩
      rw [dv k7 (by omega)]
      refine ih (n + 1) _ (L' ++ [Int32.ofNat (48 + N / 10 ^ k7 % 10)]) (by omega) (by omega) (zWL_s hW') (fun n' u' hu => H' n' u' ?_)
      rw [List.append_assoc] at hu; exact hu
  obtain ⟨z1, z2, z3, z4⟩ := zdln_s (n := N) (by omega) 9 1 (by omega) (by omega) (Or.inl rfl)
  have l0 : ∀ (k n : Nat) (u : Nat → Int32) (L' : List Int32), k ≤ 10 → zdln N 9 1 ≤ k → n + 10 ≤ 561 → zWL u n L' → (∀ n' u', zWL u' n' (L' ++ zds N (zdln N 9 1)) → Q (.inl none) (zh (P, T, (yc, yl), (u', n'), (dc, dp, df, dw, dx)) I A w)) → zW zm_91 30 [some (.ref 71), none, some (.long (Int64.ofNat N)), none, some (.int (Int32.ofNat 0)), some (.long (Int64.ofNat (10 ^ k / 10))), none, some (.int (zpre k)), none] [] p (zh (P, T, (yc, yl), (u, n), (dc, dp, df, dw, dx)) I A w) Q := by
    generalize zdln N 9 1 = z at *
    intro k
    induction k with
    | zero => intro n u L' _ h; omega
    | succ k ih =>
      intro n u L' hk hz hn' hW' H'
      rw [zten, zpre_s]
      refine b91_30 ⟨fun h => absurd h (zN_ge0 (by omega)), fun _ k7 hk7 ek => ?_⟩
      have : k7 = k := (zN_inj (by omega) hk7 ek).symm
      subst this
      have dlt : N / 10 ^ k7 % 10 < 10 := Nat.mod_lt _ (by decide)
      rw [dg k7 (by omega), show (48 : Int32) + Int32.ofNat (N / 10 ^ k7 % 10) = Int32.ofNat (48 + N / 10 ^ k7 % 10) from zN_a rfl rfl, zN_0 (by omega), dv k7 (by omega)]
      have go : z = k7 + 1 → zT zm_89 [.ref 71, .int (Int32.ofNat (48 + N / 10 ^ k7 % 10))] p (zh (P, T, (yc, yl), (u, n), (dc, dp, df, dw, dx)) I A w) (zK zm_91 89 [some (.ref 71), none, some (.long (Int64.ofNat N)), none, some (.int (Int32.ofNat 1)), some (.long (Int64.ofNat (10 ^ k7))), none, some (.int (Int32.ofNat k7)), none] [] p Q) := by
        intro ez
        rw [ez] at H'
        refine s89 (by omega) (b91_89 ?_)
        rw [dv k7 (by omega)]
        refine l1 k7 (n + 1) _ (L' ++ [Int32.ofNat (48 + N / 10 ^ k7 % 10)]) (by omega) (by omega) (zWL_s hW') (fun n' u' hu => H' n' u' ?_)
        rw [List.append_assoc] at hu; exact hu
      refine ⟨fun h => absurd h (nz k7 (by omega)), fun _ => ⟨ne k7 (by omega), by omega, fun h => absurd rfl h, fun _ => ⟨fun hd => go ?_, fun hd => ⟨fun hk0 => ?_, fun hk0 => go ?_⟩⟩⟩⟩
      · apply Classical.byContradiction
        intro hne
        apply hd
        have : 10 ^ z ≤ 10 ^ k7 := Nat.pow_le_pow_right (by omega) (by omega)
        rw [Nat.div_eq_of_lt (by omega)]
      · by_cases hzk : z ≤ k7
        · exact ih n u L' (by omega) hzk hn' hW' H'
        · exfalso
          have ez : z = k7 + 1 := by omega
          rcases z4 with h | h
          · omega
          · rw [ez, Nat.add_sub_cancel] at h
            have h10 : N < 10 ^ k7 * 10 := by rw [ez, Nat.pow_succ] at z3; exact z3
            have := p0 k7
            have d1 : 1 ≤ N / 10 ^ k7 := (Nat.one_le_div_iff (p0 k7)).mpr h
            have d2 : N / 10 ^ k7 < 10 := Nat.div_lt_of_lt_mul h10
            rw [Nat.mod_eq_of_lt d2] at hd
            omega
      · omega
  unfold zwn at H
  rw [hN] at H
  have t64 : v.toInt64.toInt = v.toInt := Int32.toInt_toInt64 v
  have e0 : ((0 : Int64) ≤ v.toInt64) ↔ 0 ≤ v.toInt := by rw [Int64.le_iff_toInt_le, t64, show Int64.toInt 0 = 0 from rfl]
  refine b91 ?_
  rw [e0]
  refine ⟨fun h0 => ?_, fun h0 => s89 (by omega) (b91_15 ?_)⟩
  · rw [if_neg (by omega), List.nil_append] at H
    have ev : v.toInt64 = Int64.ofNat N := by
      apply Int64.toInt_inj.mp
      rw [t64, zLN (by omega)]; omega
    rw [ev]
    exact l0 10 n u L (by omega) z2 (by omega) hW H
  · rw [if_pos (by omega)] at H
    have ev : -v.toInt64 = Int64.ofNat N := by
      apply Int64.toInt_inj.mp
      rw [zLn (by rw [t64]; omega), t64, zLN (by omega)]; omega
    rw [ev]
    refine l0 10 (n + 1) _ (L ++ [45]) (by omega) z2 (by omega) (zWL_s hW) (fun n' u' hu => H n' u' ?_)
    rw [List.append_assoc] at hu
    exact hu
/-- Gaussians.writeTo -/
theorem c10 {P : zPt} {T : Nat → zX} {yc : Nat → Int32} {yl dp dw : Nat} {df : Int32} {dx : Bool} {dc : Nat → Int64} {I : zIt} {A : zAt} {w : Nat → Int64} {p : Nat × Nat} {Q : zR → zH → Prop} {e : zE2} {n : Nat} {u : Nat → Int32} {L : List Int32} (he : zok 1 e) (hW : zWL u n L) (hn : n + 30 ≤ 561) (H : ∀ n' u', zWL u' n' (L ++ zwg e) → Q (.inl none) (zh (P, T, (yc, yl), (u', n'), (dc, dp, df, dw, dx)) I A w)) : zT zm_10 [.ref 3, .ref 71, .long (zen e)] p (zh (P, T, (yc, yl), (u, n), (dc, dp, df, dw, dx)) I A w) Q := by
  obtain ⟨x1, x2⟩ := e
  obtain ⟨b1, b2, b3, b4⟩ := he
  have b1 : -30000 ≤ x1.toInt := b1
  have b2 : x1.toInt ≤ 30000 := b2
  have b3 : -30000 ≤ x2.toInt := b3
  have b4 : x2.toInt ≤ 30000 := b4
  have tl : ∀ (n : Nat) (u : Nat → Int32) (L' : List Int32), zWL u n L' → n + 14 ≤ 561 → x2 ≠ 0 → (∀ n' u', zWL u' n' (L' ++ zwsg x2) → Q (.inl none) (zh (P, T, (yc, yl), (u', n'), (dc, dp, df, dw, dx)) I A w)) →
      (((¬ x2 = (-1 : Int32) → ((x2 = (1 : Int32) → zT zm_89 [.ref 71, .int (105 : Int32)] p (zh (P, T, (yc, yl), (u, n), (dc, dp, df, dw, dx)) I A w) (zK zm_10 83 [none, none, none, none, none, none] [] p Q)) ∧ (¬ x2 = (1 : Int32) → zT zm_91 [.ref 71, .int x2] p (zh (P, T, (yc, yl), (u, n), (dc, dp, df, dw, dx)) I A w) (zK zm_10 77 [none, some (.ref 71), none, none, none, none] [] p Q)))) ∧ (x2 = (-1 : Int32) → zT zm_89 [.ref 71, .int (45 : Int32)] p (zh (P, T, (yc, yl), (u, n), (dc, dp, df, dw, dx)) I A w) (zK zm_10 62 [none, some (.ref 71), none, none, none, none] [] p Q)))) := by
    intro n u L' hW' hn' n0 H'
    unfold zwsg at H'
    rw [if_neg n0] at H'
    refine ⟨fun nm1 => ⟨fun h1 => ?_, fun n1 => ?_⟩, fun m1 => ?_⟩
    · rw [if_neg nm1, if_pos h1, List.nil_append] at H'
      exact s89 (by omega) (b10_83 (H' _ _ (zWL_s hW')))
    · rw [if_neg nm1, if_neg n1] at H'
      refine s91 (by omega) (by omega) hW' (by omega) (fun n2 u2 hu => b10_77 (s89 ?_ (b10_83 ?_)))
      · have l1 := zwn_len (v := x2) (by omega)
        have := hu.1
        rw [List.length_append] at this
        have := hW'.1
        omega
      · have := zWL_s (c := 105) hu
        rw [List.append_assoc] at this
        exact H' _ _ this
    · rw [if_pos m1] at H'
      exact s89 (by omega) (b10_62 (s89 (by omega) (b10_83 (H' _ _ (zWL_2 hW')))))
  have B : ∀ (n : Nat) (u : Nat → Int32) (L' : List Int32), zWL u n L' → n + 15 ≤ 561 → (∀ n' u', zWL u' n' (L' ++ ((if x1 ≠ 0 ∧ ¬ x2 ≤ 0 then [43] else []) ++ zwsg x2)) → Q (.inl none) (zh (P, T, (yc, yl), (u', n'), (dc, dp, df, dw, dx)) I A w)) → zW zm_10 28 [none, some (.ref 71), none, none, some (.int x1), some (.int x2)] [] p (zh (P, T, (yc, yl), (u, n), (dc, dp, df, dw, dx)) I A w) Q := by
    intro n u L' hW' hn' H'
    refine b10_28 ⟨fun n0 => ⟨fun h0 => ?_, fun n1 => ⟨fun hle => ?_, fun hgt => ?_⟩⟩, fun h0 => ?_⟩
    · rw [if_neg (fun g => g.1 h0), List.nil_append] at H'
      exact tl n u L' hW' (by omega) n0 H'
    · rw [if_neg (fun g => g.2 hle), List.nil_append] at H'
      exact tl n u L' hW' (by omega) n0 H'
    · rw [if_pos ⟨n1, hgt⟩] at H'
      refine s89 (by omega) (b10_50 (tl (n + 1) _ (L' ++ [43]) (zWL_s hW') (by omega) n0 (fun n2 u2 hu => H' n2 u2 ?_)))
      rw [List.append_assoc] at hu
      exact hu
    · unfold zwsg at H'
      rw [if_pos h0, if_neg (fun g => g.2 (by rw [h0]; decide)), List.append_nil, List.append_nil] at H'
      exact H' _ _ hW'
  have H : ∀ n' u', zWL u' n' (L ++ ((if x1 ≠ 0 ∨ x2 = 0 then zwn x1 else []) ++ ((if x1 ≠ 0 ∧ ¬ x2 ≤ 0 then [43] else []) ++ zwsg x2))) → Q (.inl none) (zh (P, T, (yc, yl), (u', n'), (dc, dp, df, dw, dx)) I A w) := H
  have num : (x1 ≠ 0 ∨ x2 = 0) → zT zm_91 [.ref 71, .int x1] p (zh (P, T, (yc, yl), (u, n), (dc, dp, df, dw, dx)) I A w) (zK zm_10 28 [none, some (.ref 71), none, none, some (.int x1), some (.int x2)] [] p Q) := by
    intro hc
    rw [if_pos hc] at H
    refine s91 (by omega) (by omega) hW (by omega) (fun n2 u2 hu => B n2 u2 _ hu ?_ (fun n3 u3 h3 => H n3 u3 (by rw [List.append_assoc] at h3; exact h3)))
    have l1 := zwn_len (v := x1) (by omega)
    have := hu.1
    rw [List.length_append] at this
    have := hW.1
    omega
  refine b10 ?_
  rw [zfi_n, zse_n]
  refine ⟨fun n0 => num (Or.inl n0), fun h0 => ⟨fun ns => ⟨fun _ => ⟨fun _ => ?_, fun h => absurd h0 h⟩, fun h => absurd h ns⟩, fun hs => num (Or.inr hs)⟩⟩
  rw [if_neg (fun g => g.elim (fun g => g h0) ns), if_neg (fun g => g.1 h0), List.nil_append, List.nil_append] at H
  exact tl n u L hW (by omega) ns H
/-- writeTerm -/
theorem s73 {P : zPt} {T : Nat → zX} {yc : Nat → Int32} {yl dp dw : Nat} {df : Int32} {dx : Bool} {dc : Nat → Int64} {I : zIt} {A : zAt} {w : Nat → Int64} {p : Nat × Nat} {Q : zR → zH → Prop} {c k n : Nat} {u : Nat → Int32} {L : List Int32} (hc : c ≤ 9) (hk : k ≤ 9) (hW : zWL u n L) (hn : n + (zwt c k).length ≤ 561) (H : ∀ n' u', zWL u' n' (L ++ zwt c k) → Q (.inl none) (zh (P, T, (yc, yl), (u', n'), (dc, dp, df, dw, dx)) I A w)) : zT zm_73 [.ref 71, .int (Int32.ofNat c), .int (Int32.ofNat k)] p (zh (P, T, (yc, yl), (u, n), (dc, dp, df, dw, dx)) I A w) Q := by
  have e48 : (48 : Int32) + Int32.ofNat c = Int32.ofNat (48 + c) := zN_a rfl rfl
  have e48k : (48 : Int32) + Int32.ofNat k = Int32.ofNat (48 + k) := zN_a rfl rfl
  have c1 : Int32.ofNat c = 1 ↔ c = 1 := zN_e (b := 1) (by omega) (by omega)
  have k0 : Int32.ofNat k = 0 ↔ k = 0 := zN_e (b := 0) (by omega) (by omega)
  have le0 : Int32.ofNat k ≤ 0 ↔ k ≤ 0 := zN_leI (b := 0) (by omega) (by omega)
  have le1 : Int32.ofNat k ≤ 1 ↔ k ≤ 1 := zN_leI (b := 1) (by omega) (by omega)
  have t27 : ∀ (n : Nat) (u : Nat → Int32) (L' : List Int32), zWL u n L' → n + (if 1 < k then 2 else 0) ≤ 561 → (∀ n' u', zWL u' n' (L' ++ (if 1 < k then [94, Int32.ofNat (48 + k)] else [])) → Q (.inl none) (zh (P, T, (yc, yl), (u', n'), (dc, dp, df, dw, dx)) I A w)) → zW zm_73 27 [some (.ref 71), none, some (.int (Int32.ofNat k))] [] p (zh (P, T, (yc, yl), (u, n), (dc, dp, df, dw, dx)) I A w) Q := by
    intro n u L' hW' hn' H'
    refine b73_27 ?_
    rw [le1]
    refine ⟨fun h => ?_, fun h => ?_⟩
    · rw [if_neg (by omega), List.append_nil] at H'
      exact H' _ _ hW'
    · rw [if_pos (by omega)] at H' hn'
      refine s89 (by omega) (b73_38 ?_)
      rw [e48k]
      exact s89 (by omega) (b73_46 (H' _ _ (zWL_2 hW')))
  have t17 : ∀ (n : Nat) (u : Nat → Int32) (L' : List Int32), zWL u n L' → n + ((if 0 < k then [120] else []) ++ (if 1 < k then [94, Int32.ofNat (48 + k)] else [])).length ≤ 561 → (∀ n' u', zWL u' n' (L' ++ ((if 0 < k then [120] else []) ++ (if 1 < k then [94, Int32.ofNat (48 + k)] else []))) → Q (.inl none) (zh (P, T, (yc, yl), (u', n'), (dc, dp, df, dw, dx)) I A w)) →
      ((Int32.ofNat k ≤ (0 : Int32) → ((Int32.ofNat k ≤ (1 : Int32) → Q (.inl none) (zh (P, T, (yc, yl), (u, n), (dc, dp, df, dw, dx)) I A w)) ∧ (¬ Int32.ofNat k ≤ (1 : Int32) → zT zm_89 [.ref 71, .int (94 : Int32)] p (zh (P, T, (yc, yl), (u, n), (dc, dp, df, dw, dx)) I A w) (zK zm_73 38 [some (.ref 71), none, some (.int (Int32.ofNat k))] [] p Q)))) ∧ (¬ Int32.ofNat k ≤ (0 : Int32) → zT zm_89 [.ref 71, .int (120 : Int32)] p (zh (P, T, (yc, yl), (u, n), (dc, dp, df, dw, dx)) I A w) (zK zm_73 27 [some (.ref 71), none, some (.int (Int32.ofNat k))] [] p Q))) := by
    intro n u L' hW' hn' H'
    rw [le0, le1]
    refine ⟨fun h => ⟨fun _ => ?_, fun h => (by omega)⟩, fun h => ?_⟩
    · rw [if_neg (by omega), if_neg (by omega), List.nil_append, List.append_nil] at H'
      exact H' _ _ hW'
    · rw [if_pos (by omega)] at H' hn'
      have hl : n + 1 + (if 1 < k then 2 else 0) ≤ 561 := by
        rw [List.length_append] at hn'
        have : [(120 : Int32)].length = 1 := rfl
        split at hn' <;> rename_i h1
        · rw [if_pos h1]; have : [(94 : Int32), Int32.ofNat (48 + k)].length = 2 := rfl; omega
        · rw [if_neg h1]; omega
      refine s89 (by omega) (t27 (n + 1) _ (L' ++ [120]) (zWL_s hW') hl (fun n' u' h => H' n' u' ?_))
      rw [List.append_assoc] at h; exact h
  unfold zwt at H hn
  refine b73 ?_
  rw [c1, k0, e48]
  have big : (c ≠ 1 ∨ k = 0) → zT zm_89 [.ref 71, .int (Int32.ofNat (48 + c))] p (zh (P, T, (yc, yl), (u, n), (dc, dp, df, dw, dx)) I A w) (zK zm_73 17 [some (.ref 71), none, some (.int (Int32.ofNat k))] [] p Q) := by
    intro hh
    rw [if_pos hh] at H hn
    rw [List.length_append] at hn
    have : [Int32.ofNat (48 + c)].length = 1 := rfl
    refine s89 (by omega) (b73_17 (t17 (n + 1) _ (L ++ [Int32.ofNat (48 + c)]) (zWL_s hW) (by omega) (fun n' u' h => H n' u' ?_)))
    rw [List.append_assoc] at h; exact h
  refine ⟨fun h => big (Or.inl h), fun h => ⟨fun hk0 => ?_, fun hk0 => big (Or.inr hk0)⟩⟩
  rw [if_neg (by omega), List.nil_append] at H hn
  exact t17 n u L hW hn H
theorem zwl_0 {F : Nat → Nat} : ∀ k, (∀ j, j < k → F j = 0) → zwl F k true = [48]
  | 0, _ => rfl
  | k + 1, h => by rw [zwl, if_pos (h k (by omega))]; exact zwl_0 k (fun j hj => h j (by omega))
def zwb (k : Nat) : Nat := if k = 0 then 1 else if k = 1 then 2 else 4
theorem zwt_len (c k : Nat) : (zwt c k).length ≤ zwb k := by
  unfold zwt zwb
  rw [List.length_append, List.length_append]
  by_cases h0 : k = 0
  · subst h0
    rw [if_pos (Or.inr rfl)]; exact Nat.le_refl 1
  · by_cases h1 : k = 1
    · subst h1
      by_cases hc : c ≠ 1 ∨ 1 = 0
      · rw [if_pos hc]; exact Nat.le_refl 2
      · rw [if_neg hc]; decide
    · rw [if_pos (show 0 < k by omega), if_pos (show 1 < k by omega), if_neg h0, if_neg h1]
      by_cases hc : c ≠ 1 ∨ k = 0
      · rw [if_pos hc]; exact Nat.le_refl 4
      · rw [if_neg hc]; show 0 + (1 + 2) ≤ 4; omega
def zwB : Nat → Nat
  | 0 => 0
  | k + 1 => zwB k + 1 + zwb k
theorem zwb_1 (k : Nat) : 1 ≤ zwb k := by
  unfold zwb
  split
  · omega
  · split <;> omega
theorem zwl_len (F : Nat → Nat) : ∀ k, (zwl F k false).length ≤ zwB k ∧ (zwl F k true).length ≤ (if k = 0 then 1 else zwB k - 1)
  | 0 => ⟨Nat.le_refl _, Nat.le_refl _⟩
  | k + 1 => by
    obtain ⟨i1, i2⟩ := zwl_len F k
    have h1 := zwt_len (F k) k
    have h2 := zwb_1 k
    rw [zwl, zwl, zwB, if_neg (show ¬ k + 1 = 0 by omega)]
    by_cases hF : F k = 0
    · simp only [if_pos hF]
      split at i2
      · exact ⟨by omega, by omega⟩
      · exact ⟨by omega, by omega⟩
    · simp only [if_neg hF]
      rw [cond_false, cond_true, List.nil_append, List.length_append, List.length_append]
      have : [(43 : Int32)].length = 1 := rfl
      exact ⟨by omega, by omega⟩
/-- Polynomials.writeTo -/
theorem c72 {P : zPt} {T : Nat → zX} {yc : Nat → Int32} {yl dp dw : Nat} {df : Int32} {dx : Bool} {dc : Nat → Int64} {I : zIt} {A : zAt} {w : Nat → Int64} {p : Nat × Nat} {Q : zR → zH → Prop} {j v n : Nat} {u : Nat → Int32} {L : List Int32} (h1 : 1 ≤ j) (h4 : j ≤ 4) (hv : v < zpj j ^ 8) (hW : zWL u n L) (hn : n + 34 ≤ 561) (H : ∀ P' n' u', zWL u' n' (L ++ zwl (zcf (zpj j) v) 8 true) → Q (.inl none) (zh (P', T, (yc, yl), (u', n'), (dc, dp, df, dw, dx)) I A w)) : zT zm_72 [.ref (4 * j), .ref 71, .long (zen (Int32.ofNat v, 0))] p (zh (P, T, (yc, yl), (u, n), (dc, dp, df, dw, dx)) I A w) Q := by
  have hq := zpj_p h1 h4
  have hq7 := zprm_lt hq
  have hpw := zpw_lt hq
  have hlt := zcf_lt (show 0 < zpj j by omega) v
  refine b72 h1 h4 (s61t h1 h4 (v := v) (by omega) (zfi_n _) (fun P' hF _ _ => b72_9 ?_))
  have H := H P'
  have l8 := (zwl_len (zcf (zpj j) v) 8).2
  generalize zcf (zpj j) v = F at *
  have hFd : ∀ k, zdn F 8 ≤ k → k < 8 → F k = 0 := fun k => zdn_top
  have z0 : ∀ k, k < 8 → ((P' j).2.2 k = 0 ↔ F k = 0) := fun k hk => by rw [hF k hk]; exact zN_0 (by have := hlt k; omega)
  cases hd : zdn F 8 with
  | zero =>
    rw [hd] at hFd
    rw [zwl_0 8 (fun k hk => hFd k (by omega) hk)] at H
    have lpz : ∀ (k n : Nat) (u : Nat → Int32) (x4 : Int32), k ≤ 8 → Q (.inl none) (zh (P', T, (yc, yl), (u, n), (dc, dp, df, dw, dx)) I A w) → zW zm_72 26 [some (.ref (4 * j)), some (.ref 71), none, none, some (.int x4), some (.int (zpre k))] [] p (zh (P', T, (yc, yl), (u, n), (dc, dp, df, dw, dx)) I A w) Q := by
      intro k
      induction k with
      | zero => intro n u x4 _ h; exact b72_26 h1 h4 ⟨fun _ => h, fun h => absurd (by decide) h⟩
      | succ k ih =>
        intro n u x4 hk h
        rw [zpre_s]
        refine b72_26 h1 h4 ⟨fun h => absurd h (zN_ge0 (by omega)), fun _ k5 hk5 ek => ?_⟩
        have : k5 = k := (zN_inj (by omega) hk5 ek).symm
        subst this
        exact ⟨by omega, fun _ => ih n u x4 (by omega) h, fun hne => absurd ((z0 k5 (by omega)).mpr (hFd k5 (by omega) (by omega))) hne⟩
    exact ⟨fun h => absurd h (by decide), fun _ => s89 (by omega) (b72_22 (lpz 8 (n + 1) _ _ (by omega) (H _ _ (zWL_s hW))))⟩
  | succ D =>
    rw [hd] at hFd
    have hD8 : D + 1 ≤ 8 := by rw [← hd]; exact zdn_le F 8
    have hnz : F D ≠ 0 := by
      have := zdn_at (F := F) (n := 8) (by omega)
      rw [hd, Nat.add_sub_cancel] at this
      exact this
    have lp : ∀ (k n : Nat) (b : Bool) (u : Nat → Int32) (L' : List Int32), k ≤ 8 → b = decide (D + 1 ≤ k) → zWL u n L' → n + (zwl F k b).length ≤ 561 → (∀ n' u', zWL u' n' (L' ++ zwl F k b) → Q (.inl none) (zh (P', T, (yc, yl), (u', n'), (dc, dp, df, dw, dx)) I A w)) → zW zm_72 26 [some (.ref (4 * j)), some (.ref 71), none, none, some (.int (Int32.ofNat D)), some (.int (zpre k))] [] p (zh (P', T, (yc, yl), (u, n), (dc, dp, df, dw, dx)) I A w) Q := by
      intro k
      induction k with
      | zero =>
        intro n b u L' _ hb hW' hn' H'
        rw [decide_eq_false (show ¬ D + 1 ≤ 0 by omega)] at hb
        subst hb
        rw [show zwl F 0 false = [] from rfl, List.append_nil] at H'
        exact b72_26 h1 h4 ⟨fun _ => H' _ _ hW', fun h => absurd (by decide) h⟩
      | succ k ih =>
        intro n b u L' hk hb hW' hn' H'
        rw [zpre_s]
        refine b72_26 h1 h4 ⟨fun h => absurd h (zN_ge0 (by omega)), fun _ k5 hk5 ek => ?_⟩
        have : k5 = k := (zN_inj (by omega) hk5 ek).symm
        subst this
        rw [zwl] at H' hn'
        refine ⟨by omega, fun hz => ?_, fun hne => ?_⟩
        · have hz' := (z0 k5 (by omega)).mp hz
          rw [if_pos hz'] at H' hn'
          refine ih n b u L' (by omega) ?_ hW' hn' H'
          rw [hb, decide_eq_decide]
          have : k5 ≠ D := fun h => hnz (by rw [← h]; exact hz')
          omega
        · have hF0 : ¬ F k5 = 0 := fun h => hne ((z0 k5 (by omega)).mpr h)
          have hkD : k5 < D + 1 := by
            apply Classical.byContradiction
            intro hh
            exact hF0 (hFd k5 (by omega) (by omega))
          rw [if_neg hF0, List.length_append, List.length_append] at hn'
          rw [if_neg hF0] at H'
          rw [hF k5 (by omega), zN_leI (by omega) (by omega)]
          have l7 := hlt k5
          refine ⟨fun hle => ?_, fun hgt => ?_⟩
          · have hbt : b = true := by rw [hb]; exact decide_eq_true (by omega)
            rw [hbt, cond_true] at hn'
            rw [hbt, cond_true, List.nil_append] at H'
            refine s73 (by omega) (by omega) hW' (by have : ([] : List Int32).length = 0 := rfl
                                                     omega) (fun n2 u2 h2 => b72_67 (ih n2 false u2 _ (by omega) (decide_eq_false (by omega)).symm h2 ?_ (fun n' u' h => H' n' u' ?_)))
            · have := h2.1
              rw [List.length_append] at this
              have := hW'.1
              omega
            · rw [List.append_assoc] at h; exact h
          · have hbf : b = false := by rw [hb]; exact decide_eq_false (by omega)
            rw [hbf, cond_false] at hn'
            have : [(43 : Int32)].length = 1 := rfl
            rw [hbf, cond_false] at H'
            refine s89 (by omega) (b72_54 h1 h4 ⟨by omega, ?_⟩)
            rw [hF k5 (by omega)]
            refine s73 (by omega) (by omega) (zWL_s hW') (by omega) (fun n2 u2 h2 => b72_67 (ih n2 false u2 _ (by omega) (decide_eq_false (by omega)).symm h2 ?_ (fun n' u' h => H' n' u' ?_)))
            · have := h2.1
              rw [List.length_append, List.length_append] at this
              have := hW'.1
              omega
            · rw [List.append_assoc, List.append_assoc] at h; exact h
    rw [zpre_s]
    refine ⟨fun _ k hk ek => ?_, fun h => absurd (by rw [Int32.le_iff_toInt_le, zN_i (by omega), Int32.toInt_zero]; omega) h⟩
    rw [← ek]
    exact lp 8 n true u L (by omega) (decide_eq_true (by omega)).symm hW (by rw [if_neg (by omega), show zwB 8 - 1 = 34 from rfl] at l8; omega) H
theorem zwe_len {r : Nat} (hr : zrg r) {e : zE2} (he : zok r e) : (zwe r e).length ≤ 34 := by
  rcases zrg_c hr with rfl | rfl | hq
  · have h1 : -1000000000 ≤ e.1.toInt := he.1
    have h2 : e.1.toInt ≤ 1000000000 := he.2.1
    have := zwn_len (v := e.1) (by omega)
    show (zwn e.1).length ≤ 34
    omega
  · have h1 : -30000 ≤ e.1.toInt := he.1
    have h2 : e.1.toInt ≤ 30000 := he.2.1
    have h3 : -30000 ≤ e.2.toInt := he.2.2.1
    have h4 : e.2.toInt ≤ 30000 := he.2.2.2
    have l1 := zwn_len (v := e.1) (by omega)
    have l2 := zwn_len (v := e.2) (by omega)
    have s1 : (if e.1 ≠ 0 ∨ e.2 = 0 then zwn e.1 else []).length ≤ 11 := by
      split
      · exact l1
      · exact Nat.zero_le 11
    have s2 : (if e.1 ≠ 0 ∧ ¬ e.2 ≤ 0 then [(43 : Int32)] else []).length ≤ 1 := by
      split
      · exact Nat.le_refl 1
      · exact Nat.zero_le 1
    have s3 : (zwsg e.2).length ≤ 12 := by
      unfold zwsg
      split
      · exact Nat.zero_le 12
      · rw [List.length_append]
        have : [(105 : Int32)].length = 1 := rfl
        split
        · have : [(45 : Int32)].length = 1 := rfl
          omega
        · split
          · have : ([] : List Int32).length = 0 := rfl
            omega
          · omega
    show (zwg e).length ≤ 34
    unfold zwg
    rw [List.length_append, List.length_append]
    omega
  · rw [zwe_p hq]
    have := (zwl_len (zcf r (znn e.1)) 8).2
    rw [if_neg (by omega), show zwB 8 - 1 = 34 from rfl] at this
    exact this
/-- writeTo -/
theorem c_write {P : zPt} {T : Nat → zX} {yc : Nat → Int32} {yl dp dw : Nat} {df : Int32} {dx : Bool} {dc : Nat → Int64} {I : zIt} {A : zAt} {w : Nat → Int64} {p : Nat × Nat} {Q : zR → zH → Prop} {r : Nat} {e : zE2} {n : Nat} {u : Nat → Int32} {L : List Int32} (hr : zrg r) (he : zok r e) (hW : zWL u n L) (hn : n + 34 ≤ 561) (H : ∀ P' n' u', zWL u' n' (L ++ zwe r e) → Q (.inl none) (zh (P', T, (yc, yl), (u', n'), (dc, dp, df, dw, dx)) I A w)) : zT (zrm r zm_25 zm_10 zm_72) [.ref (zra r), .ref 71, .long (zen e)] p (zh (P, T, (yc, yl), (u, n), (dc, dp, df, dw, dx)) I A w) Q := by
  rcases zrg_c hr with rfl | rfl | hq
  · have h1 : -1000000000 ≤ e.1.toInt := he.1
    have h2 : e.1.toInt ≤ 1000000000 := he.2.1
    refine b25 ?_
    rw [zfi_n]
    exact s91 h1 h2 hW (by omega) (fun n' u' h => b25_8 (H P n' u' h))
  · exact c10 he hW (by omega) (fun n' u' h => H P n' u' h)
  · obtain ⟨v, hv, rfl⟩ := (zok_p hq).mp he
    have hpw := zpw_lt hq
    rw [zwe_p hq, show znn (Int32.ofNat v) = v from znn_o (by omega)] at H
    obtain ⟨j, h1, h4, rfl, e2, e3⟩ := zpj_of hq
    rw [e3, e2]
    exact c72 h1 h4 hv hW hn H
