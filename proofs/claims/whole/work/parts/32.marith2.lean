/-! the reference's sum -/
theorem l157e {K : zKt} {code rf rs pr pn : Int32} {bad : Bool} {J : zJt} {m pa pb vf vs : Nat → Int32} {B : zBt} {w : Nat → Int64} {p : Nat × Nat} {Q : zR → zH → Prop} {q a f b : Nat} (hq : zprm q) (H : ∀ pc', Q (.inl none) (zh K (code, (bif bad || decide (8 < zdn (zcC q a f b) 16) then 0 else Int32.ofNat (zho q (zcC q a f b) 8)), 0, (bad || decide (8 < zdn (zcC q a f b) 16)), pr, pn, J) (m, pa, pb, pc', vf, vs, B) w))
    (hpa : ∀ k, k < 8 → pa k = Int32.ofNat (zcf q a k)) : ∀ (n x : Nat) (pc : Nat → Int32), x + n = 8 → (∀ k, k < 16 → pc k = Int32.ofNat (if k < x then zcC q a f b k else zcs (zcf q f) (zcf q b) 8 k % q)) →
    zW zm_157 202 [some (.ref 75), some (.int (Int32.ofNat q)), none, none, none, none, none, none, some (.int (Int32.ofNat x)), none] [] p (zh K (code, rf, rs, bad, pr, pn, J) (m, pa, pb, pc, vf, vs, B) w) Q := by
  have hq7 := zprm_lt hq
  intro n
  induction n with
  | zero =>
    intro x pc hx hpc
    refine b157_202 ⟨by omega, fun _ => s160 (F := zcC q a f b) (by omega) (fun k hk => ?_) (fun k hk => Nat.mod_lt _ (by omega)) (b157_244 (H pc)), fun h => by omega⟩
    rw [hpc k hk]
    split
    · rfl
    · unfold zcC; rw [if_neg (by omega), Nat.add_zero, Nat.mod_mod]
  | succ n ih =>
    intro x pc hx hpc
    refine b157_202 ⟨by omega, fun h => by omega, fun h => ⟨by omega, by omega, zN_nz rfl (by omega) (by omega), ?_⟩⟩
    have h1 := Nat.mod_lt (zcs (zcf q f) (zcf q b) 8 x) (show 0 < q by omega)
    have h2 := zcf_lt (p := q) (by omega) a x
    rw [hpc x (by omega), hpa x (by omega), if_neg (Nat.lt_irrefl x), zN_r (zN_a rfl rfl) rfl (by omega) (by omega)]
    refine ih (x + 1) _ (by omega) (fun k hk => ?_)
    by_cases hkx : k = x
    · subst hkx
      rw [va_up_self, if_pos (by omega)]
      unfold zcC
      rw [if_pos (by omega)]
    · rw [va_up_ne _ _ hkx, hpc k hk]
      by_cases hk2 : k < x
      · rw [if_pos hk2, if_pos (by omega)]
      · rw [if_neg hk2, if_neg (by omega)]
theorem l157i {K : zKt} {code rf rs pr pn : Int32} {bad : Bool} {J : zJt} {m pa pb vf vs : Nat → Int32} {B : zBt} {w : Nat → Int64} {p : Nat × Nat} {Q : zR → zH → Prop} {q f b i : Nat} {x2 : Int32} (hq : zprm q) (hi : i < 8) (hpa : ∀ k, k < 8 → pa k = Int32.ofNat (zcf q f k)) (hpb : ∀ k, k < 8 → pb k = Int32.ofNat (zcf q b k))
    (H : ∀ pc', (∀ k, k < 16 → pc' k = Int32.ofNat (zcs (zcf q f) (zcf q b) (i + 1) k % q)) → zW zm_157 123 [some (.ref 75), some (.int (Int32.ofNat q)), some (.int x2), none, none, none, none, none, some (.int (Int32.ofNat (i + 1))), none] [] p (zh K (code, rf, rs, bad, pr, pn, J) (m, pa, pb, pc', vf, vs, B) w) Q) :
    ∀ (n j : Nat) (pc : Nat → Int32), j + n = 8 → (∀ k, k < 16 → pc k = Int32.ofNat (zcj (zcf q f) (zcf q b) i j k % q)) →
    zW zm_157 133 [some (.ref 75), some (.int (Int32.ofNat q)), some (.int x2), none, none, none, none, none, some (.int (Int32.ofNat i)), some (.int (Int32.ofNat j))] [] p (zh K (code, rf, rs, bad, pr, pn, J) (m, pa, pb, pc, vf, vs, B) w) Q := by
  have hq7 := zprm_lt hq
  intro n
  induction n with
  | zero =>
    intro j pc hj hpc
    have : j = 8 := by omega
    subst this
    exact b157_133 ⟨by omega, fun _ => H pc (fun k hk => by rw [hpc k hk, zcj_8]), fun h => by omega⟩
  | succ n ih =>
    intro j pc hj hpc
    refine b157_133 ⟨by omega, fun h => by omega, fun h => ⟨by omega, by omega, by omega, zN_nz rfl (by omega) (by omega), ?_⟩⟩
    have h1 := Nat.mod_lt (zcj (zcf q f) (zcf q b) i j (i + j)) (show 0 < q by omega)
    have h2 : zcf q f i * zcf q b j ≤ 7 * 7 := Nat.mul_le_mul (by have := zcf_lt (p := q) (by omega) f i; omega) (by have := zcf_lt (p := q) (by omega) b j; omega)
    rw [hpc (i + j) (by omega), hpa i (by omega), hpb j (by omega), zN_r (zN_a rfl (zN_m rfl rfl)) rfl (by omega) (by omega)]
    refine ih (j + 1) _ (by omega) (fun k hk => ?_)
    rw [zcj_s]
    by_cases hkx : k = i + j
    · subst hkx
      rw [va_up_self, if_pos rfl, Nat.mod_add_mod]
    · rw [va_up_ne _ _ hkx, hpc k hk, if_neg hkx]
theorem l157o {K : zKt} {code rf rs pr pn : Int32} {bad : Bool} {J : zJt} {m pb vf vs : Nat → Int32} {B : zBt} {w : Nat → Int64} {p : Nat × Nat} {Q : zR → zH → Prop} {q a f b : Nat} (hq : zprm q) (ha : a < q ^ 8) (hpb : ∀ k, k < 8 → pb k = Int32.ofNat (zcf q b k))
    (H : ∀ pa' pc', Q (.inl none) (zh K (code, (bif bad || decide (8 < zdn (zcC q a f b) 16) then 0 else Int32.ofNat (zho q (zcC q a f b) 8)), 0, (bad || decide (8 < zdn (zcC q a f b) 16)), pr, pn, J) (m, pa', pb, pc', vf, vs, B) w)) :
    ∀ (n i : Nat) (pa pc : Nat → Int32), i + n = 8 → (∀ k, k < 8 → pa k = Int32.ofNat (zcf q f k)) → (∀ k, k < 16 → pc k = Int32.ofNat (zcs (zcf q f) (zcf q b) i k % q)) →
    zW zm_157 123 [some (.ref 75), some (.int (Int32.ofNat q)), some (.int (Int32.ofNat a)), none, none, none, none, none, some (.int (Int32.ofNat i)), none] [] p (zh K (code, rf, rs, bad, pr, pn, J) (m, pa, pb, pc, vf, vs, B) w) Q := by
  have hq7 := zprm_lt hq
  have hpw := zpw_lt hq
  intro n
  induction n with
  | zero =>
    intro i pa pc hi hpa hpc
    have : i = 8 := by omega
    subst this
    refine b157_123 ⟨by omega, fun _ => s159a (by omega) (by omega) (by omega) (fun pa' hpa' => b157_199 ?_), fun h => by omega⟩
    exact l157e hq (fun pc' => H pa' pc') hpa' 8 0 pc rfl (fun k hk => by rw [hpc k hk, if_neg (by omega)])
  | succ n ih =>
    intro i pa pc hi hpa hpc
    refine b157_123 ⟨by omega, fun h => by omega, fun h => ?_⟩
    exact l157i hq h hpa hpb (fun pc' hpc' => ih (i + 1) pa pc' (by omega) hpa hpc') 8 0 pc rfl (fun k hk => by rw [hpc k hk, zcj_0])
theorem l157z {K : zKt} {code rf rs pr pn : Int32} {bad : Bool} {J : zJt} {m pa pb vf vs : Nat → Int32} {B : zBt} {w : Nat → Int64} {p : Nat × Nat} {Q : zR → zH → Prop} {q a f b : Nat} (hq : zprm q) (ha : a < q ^ 8) (hf : f < q ^ 8) (hb : b < q ^ 8)
    (H : ∀ pa' pb' pc', Q (.inl none) (zh K (code, (bif bad || decide (8 < zdn (zcC q a f b) 16) then 0 else Int32.ofNat (zho q (zcC q a f b) 8)), 0, (bad || decide (8 < zdn (zcC q a f b) 16)), pr, pn, J) (m, pa', pb', pc', vf, vs, B) w)) :
    ∀ (n x : Nat) (pc : Nat → Int32), x + n = 16 → (∀ k, k < x → pc k = 0) →
    zW zm_157 79 [some (.ref 75), some (.int (Int32.ofNat q)), some (.int (Int32.ofNat a)), none, some (.int (Int32.ofNat f)), none, some (.int (Int32.ofNat b)), none, some (.int (Int32.ofNat x)), none] [] p (zh K (code, rf, rs, bad, pr, pn, J) (m, pa, pb, pc, vf, vs, B) w) Q := by
  have hq7 := zprm_lt hq
  have hpw := zpw_lt hq
  intro n
  induction n with
  | zero =>
    intro x pc hx hpc
    refine b157_79 ⟨by omega, fun _ => s159a (by omega) (by omega) (by omega) (fun pa' hpa' => b157_110 (s159b (by omega) (by omega) (by omega) (fun pb' hpb' => b157_120 ?_))), fun h => by omega⟩
    exact l157o hq ha hpb' (fun pa2 pc2 => H pa2 pb' pc2) 8 0 pa' pc rfl hpa' (fun k hk => by rw [hpc k (by omega)]; simp [zcs])
  | succ n ih =>
    intro x pc hx hpc
    refine b157_79 ⟨by omega, fun h => by omega, fun h => ⟨h, ih (x + 1) _ (by omega) (fun k hk => ?_)⟩⟩
    by_cases hkx : k = x
    · subst hkx; rw [va_up_self]
    · rw [va_up_ne _ _ hkx]; exact hpc k (by omega)
theorem s157 {K : zKt} {code rf rs pr pn : Int32} {bad : Bool} {J : zJt} {m pa pb pc vf vs : Nat → Int32} {B : zBt} {w : Nat → Int64} {p : Nat × Nat} {Q : zR → zH → Prop} {r : Nat} {a1 a2 f1 f2 b1 b2 : Int32} (hr : zrg r) (ha : zok r (a1, a2)) (hf : zok r (f1, f2)) (hb : zok r (b1, b2))
    (H : ∀ pa' pb' pc', Q (.inl none) (zh K (code, (zres bad (zplus r (a1, a2) (f1, f2) (b1, b2))).2.1, (zres bad (zplus r (a1, a2) (f1, f2) (b1, b2))).2.2, (zres bad (zplus r (a1, a2) (f1, f2) (b1, b2))).1, pr, pn, J) (m, pa', pb', pc', vf, vs, B) w)) :
    zT zm_157 [.ref 75, .int (Int32.ofNat r), .int a1, .int a2, .int f1, .int f2, .int b1, .int b2] p (zh K (code, rf, rs, bad, pr, pn, J) (m, pa, pb, pc, vf, vs, B) w) Q := by
  by_cases h0 : r = 0
  · subst h0
    have H := H pa pb pc
    refine b157 ⟨by omega, fun h => absurd rfl h, fun _ => ?_⟩
    have e0 : zin 0 (-1000000000) 1000000000 = true := by decide
    cases bad with
    | true => exact H
    | false =>
      cases hz : zin (a1.toInt64 + f1.toInt64 * b1.toInt64) (-1000000000) 1000000000 with
      | true =>
        simp only [zres, zplus, hz, cond_true, cond_false] at H
        simp only [zbad, hz, e0, cond_false, Bool.not_true, Bool.or_false]
        exact H
      | false => simpa only [zres, zplus, zbad, hz, e0, cond_true, cond_false, Bool.not_true, Bool.not_false, Bool.true_or, Bool.or_true, Bool.false_or] using H
  · by_cases h1 : r = 1
    · subst h1
      have H := H pa pb pc
      refine b157 ⟨by omega, fun _ => ⟨fun h => absurd rfl h, fun _ => ?_⟩, fun h => absurd h h0⟩
      cases bad with
      | true => exact H
      | false =>
        cases hx : zin (a1.toInt64 + f1.toInt64 * b1.toInt64 - f2.toInt64 * b2.toInt64) (-30000) 30000 with
        | true =>
          cases hy : zin (a2.toInt64 + f1.toInt64 * b2.toInt64 + f2.toInt64 * b1.toInt64) (-30000) 30000 with
          | true => simpa only [zres, zplus, zbad, hx, hy, cond_true, cond_false, Bool.not_true, Bool.or_false, Bool.and_true] using H
          | false => simpa only [zres, zplus, zbad, hx, hy, cond_true, cond_false, Bool.not_true, Bool.not_false, Bool.or_true, Bool.and_false] using H
        | false => simpa only [zres, zplus, zbad, hx, cond_true, cond_false, Bool.not_true, Bool.not_false, Bool.true_or, Bool.or_true, Bool.false_and] using H
    · have hq : zprm r := by unfold zrg at hr; unfold zprm; omega
      obtain ⟨a, ha', ea⟩ := (zok_p hq).mp ha
      obtain ⟨f, hf', ef⟩ := (zok_p hq).mp hf
      obtain ⟨b, hb', eb⟩ := (zok_p hq).mp hb
      rw [ea, ef, eb, zplus_p hq ha' hf' hb'] at H
      cases ea; cases ef; cases eb
      refine b157 ⟨zrg_lt hr, fun _ => ⟨fun _ => ?_, fun h => absurd h h1⟩, fun h => absurd h h0⟩
      refine l157z hq ha' hf' hb' (fun pa' pb' pc' => ?_) 16 0 pc rfl (fun k hk => by omega)
      have H := H pa' pb' pc'
      cases bad with
      | true => exact H
      | false =>
        unfold zplP at H
        by_cases h8 : 8 < zdn (zcC r a f b) 16
        · rw [if_pos h8] at H; rw [decide_eq_true h8]; exact H
        · rw [if_neg h8] at H; rw [decide_eq_false h8]; exact H
