/-! the reference's divide, remainder, sizeOf, normalizer -/
theorem zr_ok {z : Int64} {v u : Int} (bd : Int64) (hz : z.toInt = v) (hb : bd.toInt = u) (h0 : 0 ≤ u) (hu : u ≤ 4000000000) (h1 : -u ≤ v) (h2 : v ≤ u) : zin z (-bd) bd = true := by
  rw [zin_iff, hz, hb, zLn (by omega), hb]; omega
theorem s191 {K : zKt} {code rf rs pr pn : Int32} {bad : Bool} {J : zJt} {m pa pb pc vf vs : Nat → Int32} {B : zBt} {w : Nat → Int64} {p : Nat × Nat} {Q : zR → zH → Prop} {r : Nat} {a1 a2 b1 b2 : Int32} (hr : zrg r) (ha : zok r (a1, a2)) (hb : zok r (b1, b2)) (hb0 : (b1, b2) ≠ ((0, 0) : zE2))
    (H : ∀ pa' pb' pc', Q (.inl none) (zh K (code, (zres bad (some (zquo r (a1, a2) (b1, b2)))).2.1, (zres bad (some (zquo r (a1, a2) (b1, b2)))).2.2, (zres bad (some (zquo r (a1, a2) (b1, b2)))).1, pr, pn, J) (m, pa', pb', pc', vf, vs, B) w)) :
    zT zm_191 [.ref 75, .int (Int32.ofNat r), .int a1, .int a2, .int b1, .int b2] p (zh K (code, rf, rs, bad, pr, pn, J) (m, pa, pb, pc, vf, vs, B) w) Q := by
  by_cases h0 : r = 0
  · subst h0
    obtain ⟨h1, h2, h3⟩ := ha
    obtain ⟨g1, g2, g3⟩ := hb
    dsimp only at h1 h2 h3 g1 g2 g3
    have hb1 : b1.toInt ≠ 0 := fun e => hb0 (Prod.ext (by show b1 = 0; rw [← Int32.toInt_inj, e]; rfl) g3)
    have hq := zq0_b h1 h2 hb1
    have eb : b1.toInt64.toInt = b1.toInt := Int32.toInt_toInt64 b1
    have H := H pa pb pc
    have fin : ∀ {X : Int64}, X.toInt = zq0 a1.toInt b1.toInt → Q (.inl none) (zh K (code, (bif zbad bad X 0 2000000000 then 0 else X.toInt32), (bif zbad bad X 0 2000000000 then 0 else (0 : Int64).toInt32), zbad bad X 0 2000000000, pr, pn, J) (m, pa, pb, pc, vf, vs, B) w) := by
      intro X hX
      have i1 := zr_ok (u := 2000000000) 2000000000 hX rfl (by decide) (by decide) (by omega) (by omega)
      have i2 := zr_ok (u := 2000000000) 2000000000 (show Int64.toInt 0 = 0 from rfl) rfl (by decide) (by decide) (by decide) (by decide)
      have e32 := zL_I hX (by omega) (by omega)
      cases bad with
      | true => exact H
      | false =>
        simp only [zbad, i1, i2, Bool.not_true, Bool.or_self, cond_false, e32]
        exact H
    refine b191 ⟨by omega, fun h => absurd rfl h, fun _ => ⟨fun hz k hk e => ?_, fun hz => ?_⟩⟩
    · subst e
      rw [Int32.le_iff_toInt_le, Int32.toInt_zero] at hz
      exact ⟨zL_n0 (by rw [eb]; exact hb1), zL_n0 (by rw [eb]; exact hb1), fin (zdiv0 h1 h2 g1 g2 (by rw [eb, if_pos hz]) hb1)⟩
    · rw [Int32.le_iff_toInt_le, Int32.toInt_zero] at hz
      have en : (-b1.toInt64).toInt = -b1.toInt := by rw [zLn (by rw [eb]; omega), eb]
      exact ⟨zL_n0 (by rw [en]; omega), zL_n0 (by rw [eb]; exact hb1), fin (zdiv0 h1 h2 g1 g2 (by rw [en, if_neg hz]) hb1)⟩
  · by_cases h1 : r = 1
    · subst h1
      have hn := zq1n_pos (r := 1) hb0
      have hqok := zok_quo hr ha hb hb0
      obtain ⟨h1, h2, h3, h4⟩ := ha
      obtain ⟨g1, g2, g3, g4⟩ := hb
      dsimp only at h1 h2 h3 h4 g1 g2 g3 g4
      obtain ⟨n1, n2, n3, n4⟩ := zdiv1 h1 h2 h3 h4 g1 g2 g3 g4 hn
      have q1 := zq1_b h1 h2 h3 h4 (b1 := b1.toInt) (b2 := b2.toInt) (n := zq1n (b1, b2)) rfl hn
      have q2 := zq1_b (a1 := a2.toInt) (a2 := -a1.toInt) (b1 := b1.toInt) (b2 := b2.toInt) h3 h4 (by omega) (by omega) (n := zq1n (b1, b2)) rfl hn
      rw [Int.neg_mul, ← Int.sub_eq_add_neg] at q2
      have t1 := zL_n0 (x := (2 : Int64) * (b1.toInt64 * b1.toInt64 + b2.toInt64 * b2.toInt64)) (by omega)
      have m1 := zmulb h1 h2 g1 g2
      have m2 := zmulb h3 h4 g3 g4
      have m3 := zmulb h3 h4 g1 g2
      have m4 := zmulb h1 h2 g3 g4
      have hX : (zflr ((2 : Int64) * (a1.toInt64 * b1.toInt64 + a2.toInt64 * b2.toInt64) + (b1.toInt64 * b1.toInt64 + b2.toInt64 * b2.toInt64)) ((2 : Int64) * (b1.toInt64 * b1.toInt64 + b2.toInt64 * b2.toInt64))).toInt = zq1x (a1, a2) (b1, b2) := by
        rw [zflr_i (by omega) (by omega), n2, n3]; rfl
      have hY : (zflr ((2 : Int64) * (a2.toInt64 * b1.toInt64 - a1.toInt64 * b2.toInt64) + (b1.toInt64 * b1.toInt64 + b2.toInt64 * b2.toInt64)) ((2 : Int64) * (b1.toInt64 * b1.toInt64 + b2.toInt64 * b2.toInt64))).toInt = zq1y (a1, a2) (b1, b2) := by
        rw [zflr_i (by omega) (by omega), n2, n4]; rfl
      have i1 := zr_ok (u := 60000) 60000 hX rfl (by decide) (by decide) (by unfold zq1x; dsimp only; omega) (by unfold zq1x; dsimp only; omega)
      have i2 := zr_ok (u := 60000) 60000 hY rfl (by decide) (by decide) (by unfold zq1y; dsimp only; omega) (by unfold zq1y; dsimp only; omega)
      have e1 := zL_I hX (by unfold zq1x; dsimp only; omega) (by unfold zq1x; dsimp only; omega)
      have e2 := zL_I hY (by unfold zq1y; dsimp only; omega) (by unfold zq1y; dsimp only; omega)
      have H := H pa pb pc
      refine b191 ⟨by omega, fun _ => ⟨fun h => absurd rfl h, fun _ => ⟨t1, t1, ?_⟩⟩, fun h => absurd h h0⟩
      cases bad with
      | true => exact H
      | false =>
        simp only [zbad, i1, i2, Bool.not_true, Bool.or_self, cond_false, e1, e2]
        exact H
    · have hq : zprm r := by unfold zrg at hr; unfold zprm; omega
      obtain ⟨a, ha', ea⟩ := (zok_p hq).mp ha
      obtain ⟨b, hb', eb⟩ := (zok_p hq).mp hb
      rw [ea, eb, zquo_p hq ha' hb'] at H
      rw [eb] at hb0
      have hb1 : b ≠ 0 := fun e => hb0 (by rw [e]; rfl)
      cases ea; cases eb
      refine b191 ⟨zrg_lt hr, fun _ => ⟨fun _ => ?_, fun h => absurd h h1⟩, fun h => absurd h h0⟩
      refine s193 hq ha' hb' hb1 (fun pa' pb' pc' => b191_162 ?_)
      have H := H pa' pb' pc'
      cases bad with
      | true => exact H
      | false => exact H
def zrem (r : Nat) (a b : zE2) : Option zE2 := zplus r a (zneg r (zquo r a b)) b
theorem s204 {K : zKt} {code rf rs pr pn : Int32} {bad : Bool} {J : zJt} {m pa pb pc vf vs : Nat → Int32} {B : zBt} {w : Nat → Int64} {p : Nat × Nat} {Q : zR → zH → Prop} {r : Nat} {a1 a2 b1 b2 : Int32} (hr : zrg r) (ha : zok r (a1, a2)) (hb : zok r (b1, b2)) (hb0 : (b1, b2) ≠ ((0, 0) : zE2))
    (H : ∀ pa' pb' pc', Q (.inl none) (zh K (code, (zres bad (zrem r (a1, a2) (b1, b2))).2.1, (zres bad (zrem r (a1, a2) (b1, b2))).2.2, (zres bad (zrem r (a1, a2) (b1, b2))).1, pr, pn, J) (m, pa', pb', pc', vf, vs, B) w)) :
    zT zm_204 [.ref 75, .int (Int32.ofNat r), .int a1, .int a2, .int b1, .int b2] p (zh K (code, rf, rs, bad, pr, pn, J) (m, pa, pb, pc, vf, vs, B) w) Q := by
  have hqo := zok_quo hr ha hb hb0
  have hno := zok_neg hr hqo
  refine b204 (s191 hr ha hb hb0 (fun pa1 pb1 pc1 => b204_11 ?_))
  cases bad with
  | true =>
    refine s195 hr (zok_0 hr) (fun pa2 pb2 pc2 => b204_24 ?_)
    exact s157 hr ha (zok_0 hr) hb (fun pa3 pb3 pc3 => b204_43 (H pa3 pb3 pc3))
  | false =>
    refine s195 hr hqo (fun pa2 pb2 pc2 => b204_24 ?_)
    exact s157 hr ha hno hb (fun pa3 pb3 pc3 => b204_43 (H pa3 pb3 pc3))
theorem s189 {K : zKt} {code rf rs pr pn : Int32} {bad : Bool} {J : zJt} {m pa pb pc vf vs : Nat → Int32} {B : zBt} {w : Nat → Int64} {p : Nat × Nat} {Q : zR → zH → Prop} {r : Nat} {a1 a2 : Int32} (hr : zrg r) (ha : zok r (a1, a2)) (H : ∀ pa', Q (.inl (some (.long (zsz r (a1, a2))))) (zh K (code, rf, rs, bad, pr, pn, J) (m, pa', pb, pc, vf, vs, B) w)) : zT zm_189 [.ref 75, .int (Int32.ofNat r), .int a1, .int a2] p (zh K (code, rf, rs, bad, pr, pn, J) (m, pa, pb, pc, vf, vs, B) w) Q := by
  by_cases h0 : r = 0
  · subst h0
    have H := H pa
    refine b189 ⟨by omega, fun h => absurd rfl h, fun _ => ⟨fun hz k hk e => ?_, fun hz => ?_⟩⟩
    · have e0 : zsz 0 (a1, a2) = (Int32.ofNat k).toInt64 := by
        show (bif decide (0 ≤ a1) then a1.toInt64 else -a1.toInt64) = _
        rw [decide_eq_true hz, ← e]; rfl
      rw [e0] at H
      exact H
    · have e0 : zsz 0 (a1, a2) = -a1.toInt64 := by
        show (bif decide (0 ≤ a1) then a1.toInt64 else -a1.toInt64) = _
        rw [decide_eq_false hz]; rfl
      rw [e0] at H
      exact H
  · by_cases h1 : r = 1
    · subst h1
      exact b189 ⟨by omega, fun _ => ⟨fun h => absurd rfl h, fun _ => H pa⟩, fun h => absurd h h0⟩
    · have hq : zprm r := by unfold zrg at hr; unfold zprm; omega
      have hq7 := zprm_lt hq
      have hpw := zpw_lt hq
      obtain ⟨a, ha', ea⟩ := (zok_p hq).mp ha
      rw [ea, zsz_p hq ha'] at H
      cases ea
      refine b189 ⟨zrg_lt hr, fun _ => ⟨fun _ => ?_, fun h => absurd h h1⟩, fun h => absurd h h0⟩
      refine s159a (by omega) (by omega) (by omega) (fun pa' hpa => b189_43 (s161a (n := 7) (by decide) (b189_53 ?_)))
      rw [zdI_N hpa (fun k _ => by have := zcf_lt (p := r) (by omega) a k; omega)]
      exact H pa'
theorem s198 {K : zKt} {code rf rs pr pn : Int32} {bad : Bool} {J : zJt} {m pa pb pc vf vs : Nat → Int32} {B : zBt} {w : Nat → Int64} {p : Nat × Nat} {Q : zR → zH → Prop} {r : Nat} {a1 a2 : Int32} (hr : zrg r) (ha : zok r (a1, a2)) (h00 : (a1, a2) ≠ ((0, 0) : zE2)) (H : ∀ pa', Q (.inl none) (zh K (code, (znrm r (a1, a2)).1, (znrm r (a1, a2)).2, bad, pr, pn, J) (m, pa', pb, pc, vf, vs, B) w)) : zT zm_198 [.ref 75, .int (Int32.ofNat r), .int a1, .int a2] p (zh K (code, rf, rs, bad, pr, pn, J) (m, pa, pb, pc, vf, vs, B) w) Q := by
  by_cases h0 : r = 0
  · subst h0
    have H := H pa
    refine b198 ⟨by omega, fun h => absurd rfl h, fun _ => ⟨fun hz k hk e => ?_, fun hz => ?_⟩⟩
    · subst e; simpa only [znrm, decide_eq_true hz, cond_true] using H
    · simpa only [znrm, decide_eq_false hz, cond_false] using H
  · by_cases h1 : r = 1
    · subst h1
      have H := H pa
      have go : ∀ {x y : Int32}, znrm 1 (a1, a2) = (x, y) → Q (.inl none) (zh K (code, x, y, bad, pr, pn, J) (m, pa, pb, pc, vf, vs, B) w) := fun e => by rw [e] at H; exact H
      have li : ∀ {x y : Int32}, x < y ↔ x.toInt < y.toInt := Int32.lt_iff_toInt_lt
      have le : ∀ {x y : Int32}, x ≤ y ↔ x.toInt ≤ y.toInt := Int32.le_iff_toInt_le
      have hz : ¬ (a1.toInt = 0 ∧ a2.toInt = 0) := fun ⟨e1, e2⟩ => h00 (Prod.ext (by show a1 = 0; rw [← Int32.toInt_inj, e1]; rfl) (by show a2 = 0; rw [← Int32.toInt_inj, e2]; rfl))
      refine b198 ⟨by omega, fun _ => ⟨fun h => absurd rfl h, fun _ => ⟨fun c1 => ⟨fun c2 => ⟨fun c3 k hk e => go ?_, fun c3 => go ?_⟩, fun c2 => go ?_⟩, fun c1 => ⟨fun c2 => ⟨fun c3 => ⟨fun c4 k hk e => go ?_, fun c4 => go ?_⟩, fun c3 => go ?_⟩, fun c2 k hk e => go ?_⟩⟩⟩, fun h => absurd h h0⟩
      · subst e; rw [le, Int32.toInt_zero] at c1 c2 c3; simp only [znrm, li, le, Int32.toInt_zero]; rw [if_neg (by omega), if_neg (by omega), if_pos (by omega)]
      · rw [le, Int32.toInt_zero] at c1 c2 c3; simp only [znrm, li, le, Int32.toInt_zero]; rw [if_neg (by omega), if_pos (by omega)]
      · rw [le, Int32.toInt_zero] at c1 c2; simp only [znrm, li, le, Int32.toInt_zero]; rw [if_pos (by omega)]
      · subst e; rw [le, Int32.toInt_zero] at c1 c3 c4; rw [li, Int32.toInt_zero] at c2; simp only [znrm, li, le, Int32.toInt_zero]; rw [if_neg (by omega), if_neg (by omega), if_pos (by omega)]
      · rw [le, Int32.toInt_zero] at c1 c3 c4; omega
      · rw [li, Int32.toInt_zero] at c2; rw [le, Int32.toInt_zero] at c3; omega
      · subst e; rw [le, Int32.toInt_zero] at c1; rw [li, Int32.toInt_zero] at c2; simp only [znrm, li, le, Int32.toInt_zero]; rw [if_neg (by omega), if_neg (by omega), if_neg (by omega)]
    · have hq : zprm r := by unfold zrg at hr; unfold zprm; omega
      have hq7 := zprm_lt hq
      have hpw := zpw_lt hq
      obtain ⟨a, ha', ea⟩ := (zok_p hq).mp ha
      rw [ea] at h00
      have ha0 : a ≠ 0 := fun e => h00 (by rw [e]; rfl)
      have hD := zcf_nz (p := r) (by omega) ha' ha0
      have hD8 := zdn_le (zcf r a) 8
      rw [ea, znrm_p hq ha', if_neg (by omega)] at H
      cases ea
      refine b198 ⟨zrg_lt hr, fun _ => ⟨fun _ => ?_, fun h => absurd h h1⟩, fun h => absurd h h0⟩
      refine s159a (by omega) (by omega) (by omega) (fun pa' hpa => b198_122 (s161a (n := 7) (by decide) ?_))
      rw [zdI_N hpa (fun k _ => by have := zcf_lt (p := r) (by omega) a k; omega)]
      obtain ⟨d, hd⟩ : ∃ d, zdn (zcf r a) 8 = d + 1 := ⟨zdn (zcf r a) 8 - 1, by omega⟩
      have hlead : zcf r a d ≠ 0 := by have := zdn_at hD; rw [hd] at this; exact this
      have H := H pa'
      rw [hd, Nat.add_sub_cancel] at H
      rw [hd, zpre_s]
      refine b198_136 ⟨d, rfl, by omega, ?_⟩
      rw [hpa d (by omega)]
      exact s194 hq (by omega) (zcf_lt (by omega) a d) (b198_141 H)
