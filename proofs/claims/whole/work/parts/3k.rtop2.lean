/-! THE REFERENCE'S CALLS: swap, add, scale, back, hermite, smith, step, entryAfter, quotient, gcd -/
theorem zdoS_n {S : zSs} {a0 : Int32} {X : zMt} {s : zSt} (h : zdo X.1 X.2.1 X.2.2.1 s X.2.2.2.2 = none) : zdoS S a0 X s = (.inr 3, S) := by unfold zdoS; rw [h]
theorem zdoS_s {S : zSs} {k : Nat} {X : zMt} {s : zSt} {τ : zFo} (hk : k < 3) (h : zdo X.1 X.2.1 X.2.2.1 s X.2.2.2.2 = some τ) : zdoS S (Int32.ofNat k) X s = (.inl (Int32.ofNat τ.1), zup S k (X.1, X.2.1, X.2.2.1, X.2.2.2.1, τ)) := by unfold zdoS; rw [h, znn_o (by omega)]
theorem r_do {K : zKt} {rf rs pr pn : Int32} {bad : Bool} {J : zJt} {m pa pb pc vf vs : Nat → Int32} {B : zBt} {w : Nat → Int64} {p : Nat × Nat} {Q : zR → zH → Prop} {S : zSs} {k : Nat} {X : zMt} {s : zSt} {jj : Int32} (hw : zSw S) (hR : zRS m S) (hk : k < 3) (e : S k = some X) (hs : zsv X.1 X.2.1 X.2.2.1 s) (hj : s.1 % 3 ≠ 2 → jj = Int32.ofNat s.2.2.1)
    (H : ∀ m' h', zRS m' (zdoS S (Int32.ofNat k) X s).2 → zRH K J B w m' (zcd [0, 1, 2, 3] (zdoS S (Int32.ofNat k) X s).1) h' → Q (.inl (some (.int (zrv (zdoS S (Int32.ofNat k) X s).1)))) h') :
    zT zm_172 [.ref 75, .int (Int32.ofNat k), .int (Int32.ofNat s.1), .int (Int32.ofNat s.2.1), .int jj, .int s.2.2.2.1, .int s.2.2.2.2] p (zh K (0, rf, rs, bad, pr, pn, J) (m, pa, pb, pc, vf, vs, B) w) Q :=
  s172 hw hR hk e hs hj (fun τ hd m' h' g1 g2 => zfin (S := S) H (zdoS_s hk hd) m' h' g1 g2) (fun hd m' h' g1 g2 => zfin (S := S) H (zdoS_n hd) m' h' g1 g2)
theorem r_swap {K : zKt} {code rf rs pr pn : Int32} {bad : Bool} {J : zJt} {m pa pb pc vf vs : Nat → Int32} {B : zBt} {w : Nat → Int64} {p : Nat × Nat} {Q : zR → zH → Prop} {S : zSs} {a0 a2 a3 : Int32} {c : Bool} (hw : zSw S) (hR : zRS m S) (H : ∀ m' h', zRS m' (zc_swap S a0 c a2 a3).2 → zRH K J B w m' (zcd [0, 1, 2, 3] (zc_swap S a0 c a2 a3).1) h' → Q (.inl (some (.int (zrv (zc_swap S a0 c a2 a3).1)))) h') :
    zT zm_170 [.ref 75, .int a0, .int (zbi c), .int a2, .int a3] p (zh K (code, rf, rs, bad, pr, pn, J) (m, pa, pb, pc, vf, vs, B) w) Q := by
  refine b170 (s169 hw hR (fun c0 => b170_5 ⟨fun h => absurd h (by decide), fun _ => zfin (S := S) H (zwith_0 c0) m _ hR ⟨_, _, _, _, _, _, _, _, _, _, rfl⟩⟩) (fun k hk ek c0 e => b170_5 ⟨fun h => absurd h (by decide), fun _ => zfin (S := S) H (zwith_1 c0 hk ek e) m _ hR ⟨_, _, _, _, _, _, _, _, _, _, rfl⟩⟩) (fun k X hk ek c0 e => ?_))
  subst ek
  have hX := hw k X hk e
  have hb := zRS_b hR hk e
  have h4 := zll_le hX.1 c
  have bad2 : ¬ (zlin (zll X.2.1 X.2.2.1 c) a2 = true ∧ zlin (zll X.2.1 X.2.2.1 c) a3 = true ∧ a2 ≠ a3) → Q (.inl (some (.int (0 : Int32)))) (zh K ((3 : Int32), rf, rs, bad, pr, pn, J) (m, pa, pb, pc, vf, vs, B) w) := by
    intro hn
    exact zfin (S := S) (x := .inr 2) (S' := S) H (by rw [zc_swap, zwith_2 c0 hk rfl e, if_neg hn]) m _ hR ⟨_, _, _, _, _, _, _, _, _, _, rfl⟩
  refine b170_5 ⟨fun _ => ⟨k, rfl, by omega, ?_⟩, fun h => absurd (by decide) h⟩
  rw [zareL_c hX.1 hb.1]
  refine ⟨fun c1 => bad2 (fun h => by rw [h.1, h.2.1] at c1; cases c1), fun c1 k1 hk1 ek1 k2 hk2 ek2 => ?_⟩
  rw [Bool.and_eq_true] at c1
  obtain ⟨x, hx, ex⟩ := zlin_n c1.1
  obtain ⟨y, hy, ey⟩ := zlin_n c1.2
  have : k1 = x := zN_inj hk1 (by omega) (ek1.symm.trans ex)
  subst this
  have : k2 = y := zN_inj hk2 (by omega) (ek2.symm.trans ey)
  subst this
  subst ek1 ek2
  refine ⟨fun hne => ?_, fun heq => bad2 (fun h => h.2.2 (by rw [heq]))⟩
  have e2 : zc_swap S (Int32.ofNat k) c (Int32.ofNat k1) (Int32.ofNat k2) = zdoS S (Int32.ofNat k) X (bif c then 3 else 0, k1, k2, (0, 0)) := by
    rw [zc_swap, zwith_2 c0 hk rfl e, if_pos ⟨c1.1, c1.2, fun h => hne (zN_inj hk1 hk2 h)⟩, znn_o hk1, znn_o hk2]
  rw [e2] at H
  have hs := zswp_sv (r := X.1) (h := X.2.1) (d := X.2.2.1) (ρ := k1) (i := k2) hX.1.1 c hy hx (fun h => hne h.symm)
  refine ⟨fun hc => ?_, fun hc => ?_⟩
  · subst hc
    exact r_do (s := (0, k1, k2, (0, 0))) hw hR hk e hs (fun _ => rfl) (fun m' h' g1 g2 => by obtain ⟨_, _, _, _, _, _, _, _, _, _, rfl⟩ := g2; exact b170_62 (H m' _ g1 ⟨_, _, _, _, _, _, _, _, _, _, rfl⟩))
  · subst hc
    exact r_do (s := (3, k1, k2, (0, 0))) hw hR hk e hs (fun _ => rfl) (fun m' h' g1 g2 => by obtain ⟨_, _, _, _, _, _, _, _, _, _, rfl⟩ := g2; exact b170_62 (H m' _ g1 ⟨_, _, _, _, _, _, _, _, _, _, rfl⟩))
theorem r_add {K : zKt} {code rf rs pr pn : Int32} {bad : Bool} {J : zJt} {m pa pb pc vf vs : Nat → Int32} {B : zBt} {w : Nat → Int64} {p : Nat × Nat} {Q : zR → zH → Prop} {S : zSs} {a0 a2 a3 a4 a5 : Int32} {c : Bool} (hw : zSw S) (hR : zRS m S) (H : ∀ m' h', zRS m' (zc_add S a0 c a2 a3 a4 a5).2 → zRH K J B w m' (zcd [0, 1, 2, 3] (zc_add S a0 c a2 a3 a4 a5).1) h' → Q (.inl (some (.int (zrv (zc_add S a0 c a2 a3 a4 a5).1)))) h') :
    zT zm_177 [.ref 75, .int a0, .int (zbi c), .int a2, .int a3, .int a4, .int a5] p (zh K (code, rf, rs, bad, pr, pn, J) (m, pa, pb, pc, vf, vs, B) w) Q := by
  refine b177 (s169 hw hR (fun c0 => b177_5 ⟨fun h => absurd h (by decide), fun _ => zfin (S := S) H (zwith_0 c0) m _ hR ⟨_, _, _, _, _, _, _, _, _, _, rfl⟩⟩) (fun k hk ek c0 e => b177_5 ⟨fun h => absurd h (by decide), fun _ => zfin (S := S) H (zwith_1 c0 hk ek e) m _ hR ⟨_, _, _, _, _, _, _, _, _, _, rfl⟩⟩) (fun k X hk ek c0 e => ?_))
  subst ek
  have hX := hw k X hk e
  have hb := zRS_b hR hk e
  have h4 := zll_le hX.1 c
  have bad2 : ¬ (zlin (zll X.2.1 X.2.2.1 c) a2 = true ∧ zlin (zll X.2.1 X.2.2.1 c) a3 = true ∧ a2 ≠ a3 ∧ zise (Int32.ofNat X.1) a4 a5 = true) → Q (.inl (some (.int (0 : Int32)))) (zh K ((3 : Int32), rf, rs, bad, pr, pn, J) (m, pa, pb, pc, vf, vs, B) w) := by
    intro hn
    exact zfin (S := S) (x := .inr 2) (S' := S) H (by rw [zc_add, zwith_2 c0 hk rfl e, if_neg hn]) m _ hR ⟨_, _, _, _, _, _, _, _, _, _, rfl⟩
  refine b177_5 ⟨fun _ => ⟨k, rfl, by omega, ?_⟩, fun h => absurd (by decide) h⟩
  rw [zareL_c hX.1 hb.1]
  refine ⟨fun c1 => bad2 (fun h => by rw [h.1, h.2.1] at c1; cases c1), fun c1 k1 hk1 ek1 k2 hk2 ek2 => ?_⟩
  rw [Bool.and_eq_true] at c1
  obtain ⟨x, hx, ex⟩ := zlin_n c1.1
  obtain ⟨y, hy, ey⟩ := zlin_n c1.2
  have : k1 = x := zN_inj hk1 (by omega) (ek1.symm.trans ex)
  subst this
  have : k2 = y := zN_inj hk2 (by omega) (ek2.symm.trans ey)
  subst this
  subst ek1 ek2
  refine ⟨fun heq => bad2 (fun h => h.2.2.1 (by rw [heq])), fun hne => ⟨1068 * k, by rw [z1068]; exact Int32.add_zero _, by omega, ?_⟩⟩
  rw [hb.1.1]
  refine ⟨fun c2 => ?_, fun c2 => bad2 (fun h => by rw [c2] at h; cases h.2.2.2)⟩
  have e2 : zc_add S (Int32.ofNat k) c (Int32.ofNat k1) (Int32.ofNat k2) a4 a5 = zdoS S (Int32.ofNat k) X (bif c then 4 else 1, k1, k2, (a4, a5)) := by
    rw [zc_add, zwith_2 c0 hk rfl e, if_pos ⟨c1.1, c1.2, fun h => hne (zN_inj hk1 hk2 h), c2⟩, znn_o hk1, znn_o hk2]
  rw [e2] at H
  have hs := zadd_sv (r := X.1) (h := X.2.1) (d := X.2.2.1) (c := c) (i := k1) (t := k2) hx hy hne ((zise_ok hX.1.1).mp c2)
  refine ⟨fun hc => ?_, fun hc => ?_⟩
  · subst hc
    exact r_do (s := (1, k1, k2, (a4, a5))) hw hR hk e hs (fun _ => rfl) (fun m' h' g1 g2 => by obtain ⟨_, _, _, _, _, _, _, _, _, _, rfl⟩ := g2; exact b177_86 (H m' _ g1 ⟨_, _, _, _, _, _, _, _, _, _, rfl⟩))
  · subst hc
    exact r_do (s := (4, k1, k2, (a4, a5))) hw hR hk e hs (fun _ => rfl) (fun m' h' g1 g2 => by obtain ⟨_, _, _, _, _, _, _, _, _, _, rfl⟩ := g2; exact b177_86 (H m' _ g1 ⟨_, _, _, _, _, _, _, _, _, _, rfl⟩))
theorem zscl_sv {r h d : Nat} (hr : zrg r) (c : Bool) {i : Nat} {f : zE2} (hi : i < zll h d c) (hf : zun r f) : zsv r h d (bif c then 5 else 2, i, 0, f) := by
  cases c
  · exact ⟨by show 2 < 6; omega, hi, fun h => absurd rfl h, fun _ => ⟨rfl, hf⟩, zun_ok hr hf, fun h => absurd (show 2 % 3 = 0 from h) (by decide)⟩
  · exact ⟨by show 5 < 6; omega, hi, fun h => absurd (show 5 % 3 = 2 from rfl) h, fun _ => ⟨rfl, hf⟩, zun_ok hr hf, fun h => absurd (show 5 % 3 = 0 from h) (by decide)⟩
theorem r_scale {K : zKt} {code rf rs pr pn : Int32} {bad : Bool} {J : zJt} {m pa pb pc vf vs : Nat → Int32} {B : zBt} {w : Nat → Int64} {p : Nat × Nat} {Q : zR → zH → Prop} {S : zSs} {a0 a2 a3 a4 : Int32} {c : Bool} (hw : zSw S) (hR : zRS m S) (H : ∀ m' h', zRS m' (zc_scale S a0 c a2 a3 a4).2 → zRH K J B w m' (zcd [0, 1, 2, 3] (zc_scale S a0 c a2 a3 a4).1) h' → Q (.inl (some (.int (zrv (zc_scale S a0 c a2 a3 a4).1)))) h') :
    zT zm_178 [.ref 75, .int a0, .int (zbi c), .int a2, .int a3, .int a4] p (zh K (code, rf, rs, bad, pr, pn, J) (m, pa, pb, pc, vf, vs, B) w) Q := by
  refine b178 (s169 hw hR (fun c0 => b178_5 ⟨fun h => absurd h (by decide), fun _ => zfin (S := S) H (zwith_0 c0) m _ hR ⟨_, _, _, _, _, _, _, _, _, _, rfl⟩⟩) (fun k hk ek c0 e => b178_5 ⟨fun h => absurd h (by decide), fun _ => zfin (S := S) H (zwith_1 c0 hk ek e) m _ hR ⟨_, _, _, _, _, _, _, _, _, _, rfl⟩⟩) (fun k X hk ek c0 e => ?_))
  subst ek
  have hX := hw k X hk e
  have hb := zRS_b hR hk e
  have h4 := zll_le hX.1 c
  have bad2 : ¬ (zlin (zll X.2.1 X.2.2.1 c) a2 = true ∧ zisu (Int32.ofNat X.1) a3 a4 = true) → Q (.inl (some (.int (0 : Int32)))) (zh K ((3 : Int32), rf, rs, bad, pr, pn, J) (m, pa, pb, pc, vf, vs, B) w) := by
    intro hn
    exact zfin (S := S) (x := .inr 2) (S' := S) H (by rw [zc_scale, zwith_2 c0 hk rfl e, if_neg hn]) m _ hR ⟨_, _, _, _, _, _, _, _, _, _, rfl⟩
  refine b178_5 ⟨fun _ => ⟨k, rfl, by omega, ?_⟩, fun h => absurd (by decide) h⟩
  rw [zareL_c hX.1 hb.1, Bool.and_self]
  refine ⟨fun c1 => bad2 (fun h => by rw [h.1] at c1; cases c1), fun c1 k1 hk1 ek1 => ⟨1068 * k, by rw [z1068]; exact Int32.add_zero _, by omega, ?_⟩⟩
  obtain ⟨x, hx, ex⟩ := zlin_n c1
  have : k1 = x := zN_inj hk1 (by omega) (ek1.symm.trans ex)
  subst this
  subst ek1
  rw [hb.1.1]
  refine ⟨fun c2 => ?_, fun c2 => bad2 (fun h => by rw [c2] at h; cases h.2)⟩
  have e2 : zc_scale S (Int32.ofNat k) c (Int32.ofNat k1) a3 a4 = zdoS S (Int32.ofNat k) X (bif c then 5 else 2, k1, 0, (a3, a4)) := by
    rw [zc_scale, zwith_2 c0 hk rfl e, if_pos ⟨c1, c2⟩, znn_o hk1]
  rw [e2] at H
  have hs := zscl_sv (r := X.1) (h := X.2.1) (d := X.2.2.1) hX.1.1 c hx ((zisu_ok hX.1.1).mp c2)
  refine ⟨fun hc => ?_, fun hc => ?_⟩
  · subst hc
    exact r_do (s := (2, k1, 0, (a3, a4))) hw hR hk e hs (fun h => absurd (show 2 % 3 = 2 from rfl) h) (fun m' h' g1 g2 => by obtain ⟨_, _, _, _, _, _, _, _, _, _, rfl⟩ := g2; exact b178_78 (H m' _ g1 ⟨_, _, _, _, _, _, _, _, _, _, rfl⟩))
  · subst hc
    exact r_do (s := (5, k1, 0, (a3, a4))) hw hR hk e hs (fun h => absurd (show 5 % 3 = 2 from rfl) h) (fun m' h' g1 g2 => by obtain ⟨_, _, _, _, _, _, _, _, _, _, rfl⟩ := g2; exact b178_78 (H m' _ g1 ⟨_, _, _, _, _, _, _, _, _, _, rfl⟩))
theorem r_back {K : zKt} {code rf rs pr pn : Int32} {bad : Bool} {J : zJt} {m pa pb pc vf vs : Nat → Int32} {B : zBt} {w : Nat → Int64} {p : Nat × Nat} {Q : zR → zH → Prop} {S : zSs} {a0 : Int32} (hw : zSw S) (hR : zRS m S) (H : ∀ m' h', zRS m' (zc_back S a0).2 → zRH K J B w m' (zcd [0, 1] (zc_back S a0).1) h' → Q (.inl (some (.int (zrv (zc_back S a0).1)))) h') :
    zT zm_180 [.ref 75, .int a0] p (zh K (code, rf, rs, bad, pr, pn, J) (m, pa, pb, pc, vf, vs, B) w) Q := by
  refine b180 (s169 hw hR (fun c0 => b180_5 ⟨fun h => absurd h (by decide), fun _ => zfin (S := S) H (zwith_0 c0) m _ hR ⟨_, _, _, _, _, _, _, _, _, _, rfl⟩⟩) (fun k hk ek c0 e => b180_5 ⟨fun h => absurd h (by decide), fun _ => zfin (S := S) H (zwith_1 c0 hk ek e) m _ hR ⟨_, _, _, _, _, _, _, _, _, _, rfl⟩⟩) (fun k X hk ek c0 e => ?_))
  subst ek
  have hX := hw k X hk e
  have hb := zRS_b hR hk e
  have hc := hX.2.1
  refine b180_5 ⟨fun _ => ⟨1068 * k + 3, zN_a (zN_m rfl rfl) rfl, by omega, ?_⟩, fun h => absurd (by decide) h⟩
  rw [hb.2.1]
  refine ⟨fun hn => ?_, fun hz => ?_⟩
  · have hc0 : X.2.2.2.2.1 ≠ 0 := fun h => hn (by rw [h]; rfl)
    rw [va_up_self, show Int32.ofNat X.2.2.2.2.1 - 1 = Int32.ofNat (X.2.2.2.2.1 - 1) from zN_sb rfl rfl (by omega), z1068]
    obtain ⟨F, hF⟩ := zrp_pre hX.2.2.2.2.2 (X.2.2.2.2.1 - 1) (by omega)
    have e1 : ∀ j, j ≠ 1068 * k + 3 → va_up m (1068 * k + 3) (Int32.ofNat (X.2.2.2.2.1 - 1)) j = m j := fun j hj => va_up_ne _ _ hj
    refine s181 (g := X.2.2.2.2.2.2) hX.1 (by omega) (zRh_eq (fun j _ _ => e1 j (by omega)) hb.1) (zRE_eq (fun j _ _ => e1 j (by omega)) hb.2.2.2.1) hX.2.2.2.1 (fun j hj => hX.2.2.2.2.1 j (by omega)) (fun j hj => zRg_eq (fun i _ _ => e1 i (by omega)) (hb.2.2.2.2 j (by omega))) (by omega) hF (fun rf' rs' pa' pb' pc' m' f1 f2 => b180_69 ⟨1068 * k + 3, zN_a rfl rfl, by omega, ?_⟩)
    have m3 : m' (1068 * k + 3) = Int32.ofNat (X.2.2.2.2.1 - 1) := by rw [f1 _ (by omega), va_up_self]
    rw [m3]
    refine zfin (S := S) (x := .inl (Int32.ofNat (X.2.2.2.2.1 - 1))) (S' := zup S k (X.1, X.2.1, X.2.2.1, X.2.2.2.1, (X.2.2.2.2.1 - 1, F, X.2.2.2.2.2.2))) H (by rw [zc_back, zwith_2 c0 hk rfl e, if_neg hc0, hF, znn_o (by omega)]) m' _ (zRS_up hR hw (fun j hj => by rw [f1 j (by omega), e1 j (by omega)]) ⟨?_, m3, f2, ?_, fun j hj => ?_⟩) ⟨_, _, _, _, _, _, _, _, _, _, rfl⟩
    · exact zRh_eq (fun j _ _ => by rw [f1 j (by omega), e1 j (by omega)]) hb.1
    · exact zRE_eq (fun j _ _ => by rw [f1 j (by omega), e1 j (by omega)]) hb.2.2.2.1
    · have hj : j < X.2.2.2.2.1 - 1 := hj
      exact zRg_eq (fun i _ _ => by rw [f1 i (by omega), e1 i (by omega)]) (hb.2.2.2.2 j (by omega))
  · have hc0 : X.2.2.2.2.1 = 0 := (zN_0 (by omega)).mp hz
    exact zfin (S := S) (x := .inr 1) (S' := S) H (by rw [zc_back, zwith_2 c0 hk rfl e, if_pos hc0]) m _ hR ⟨_, _, _, _, _, _, _, _, _, _, rfl⟩
theorem r_hermite {K : zKt} {code rf rs pr pn : Int32} {bad : Bool} {J : zJt} {m pa pb pc vf vs : Nat → Int32} {B : zBt} {w : Nat → Int64} {p : Nat × Nat} {Q : zR → zH → Prop} {S : zSs} {a0 : Int32} (hw : zSw S) (hR : zRS m S) (H : ∀ m' h', zRS m' (zc_form S a0 zfH).2 → zRH K J B w m' (zcd [0, 1, 3] (zc_form S a0 zfH).1) h' → Q (.inl (some (.int (zrv (zc_form S a0 zfH).1)))) h') :
    zT zm_183 [.ref 75, .int a0] p (zh K (code, rf, rs, bad, pr, pn, J) (m, pa, pb, pc, vf, vs, B) w) Q := by
  refine b183 (s169 hw hR (fun c0 => b183_5 ⟨fun h => absurd h (by decide), fun _ => zfin (S := S) H (zwith_0 c0) m _ hR ⟨_, _, _, _, _, _, _, _, _, _, rfl⟩⟩) (fun k hk ek c0 e => b183_5 ⟨fun h => absurd h (by decide), fun _ => zfin (S := S) H (zwith_1 c0 hk ek e) m _ hR ⟨_, _, _, _, _, _, _, _, _, _, rfl⟩⟩) (fun k X hk ek c0 e => ?_))
  subst ek
  have hX := hw k X hk e
  have hb := zRS_b hR hk e
  refine b183_5 ⟨fun _ => s173 hk (fun m1 f1 f2 => b183_21 ?_), fun h => absurd (by decide) h⟩
  have hb1 := zRb_cp f2 hX.2.1 hb
  have hR1 := zRS_fr hR hw f1 (by omega)
  refine s184 (β := 3204) hX.1 (by omega) (⟨rfl, hb1, hX.2⟩ : zGB false m1 3204 X.1 X.2.1 X.2.2.1 X.2.2.2.1 (some X.2.2.2.2)) (fun ρ τ eτ rf' rs' pa' pb' pc' m2 g1 g2 => b183_28 ?_) (fun eτ rv rf' rs' pa' pb' pc' m2 g1 g2 => b183_28 ?_)
  · obtain ⟨_, hb2, hw2⟩ := g2
    refine s162 hk (fun _ m3 k1 k2 => b183_36 ?_) (fun h => (by cases h))
    exact zfin (S := S) (x := .inl (Int32.ofNat ρ)) (S' := zup S k (X.1, X.2.1, X.2.2.1, X.2.2.2.1, τ)) H (by rw [zc_form, zwith_2 c0 hk rfl e, show zfH X = some (ρ, τ) from eτ, znn_o (by omega)]) m3 _ (zRS_up (zRS_fr hR1 hw g1 (by omega)) hw k1 (zRb_cp k2 hw2.1 hb2)) ⟨_, _, _, _, _, _, _, _, _, _, rfl⟩
  · refine s162 hk (fun h => (by cases h)) (fun _ => b183_36 ?_)
    exact zfin (S := S) (x := .inr 3) (S' := S) H (by rw [zc_form, zwith_2 c0 hk rfl e, show zfH X = none from eτ]) m2 _ (zRS_fr hR1 hw g1 (by omega)) ⟨_, _, _, _, _, _, _, _, _, _, rfl⟩
theorem r_smith {K : zKt} {code rf rs pr pn : Int32} {bad : Bool} {J : zJt} {m pa pb pc vf vs : Nat → Int32} {B : zBt} {w : Nat → Int64} {p : Nat × Nat} {Q : zR → zH → Prop} {S : zSs} {a0 : Int32} (hw : zSw S) (hR : zRS m S) (H : ∀ m' h', zRS m' (zc_form S a0 zfS).2 → zRH K J B w m' (zcd [0, 1, 3] (zc_form S a0 zfS).1) h' → Q (.inl (some (.int (zrv (zc_form S a0 zfS).1)))) h') :
    zT zm_199 [.ref 75, .int a0] p (zh K (code, rf, rs, bad, pr, pn, J) (m, pa, pb, pc, vf, vs, B) w) Q := by
  refine b199 (s169 hw hR (fun c0 => b199_5 ⟨fun h => absurd h (by decide), fun _ => zfin (S := S) H (zwith_0 c0) m _ hR ⟨_, _, _, _, _, _, _, _, _, _, rfl⟩⟩) (fun k hk ek c0 e => b199_5 ⟨fun h => absurd h (by decide), fun _ => zfin (S := S) H (zwith_1 c0 hk ek e) m _ hR ⟨_, _, _, _, _, _, _, _, _, _, rfl⟩⟩) (fun k X hk ek c0 e => ?_))
  subst ek
  have hX := hw k X hk e
  have hb := zRS_b hR hk e
  refine b199_5 ⟨fun _ => s173 hk (fun m1 f1 f2 => b199_21 ?_), fun h => absurd (by decide) h⟩
  have hb1 := zRb_cp f2 hX.2.1 hb
  have hR1 := zRS_fr hR hw f1 (by omega)
  refine s200 (β := 3204) hX.1 (by omega) (⟨rfl, hb1, hX.2⟩ : zGB false m1 3204 X.1 X.2.1 X.2.2.1 X.2.2.2.1 (some X.2.2.2.2)) (fun ρ τ eτ rf' rs' pa' pb' pc' pr' pn' m2 g1 g2 => b199_28 ?_) (fun eτ rv rf' rs' pa' pb' pc' pr' pn' m2 g1 g2 => b199_28 ?_)
  · obtain ⟨_, hb2, hw2⟩ := g2
    refine s162 hk (fun _ m3 k1 k2 => b199_36 ?_) (fun h => (by cases h))
    exact zfin (S := S) (x := .inl (Int32.ofNat ρ)) (S' := zup S k (X.1, X.2.1, X.2.2.1, X.2.2.2.1, τ)) H (by rw [zc_form, zwith_2 c0 hk rfl e, show zfS X = some (ρ, τ) from eτ, znn_o (by omega)]) m3 _ (zRS_up (zRS_fr hR1 hw g1 (by omega)) hw k1 (zRb_cp k2 hw2.1 hb2)) ⟨_, _, _, _, _, _, _, _, _, _, rfl⟩
  · refine s162 hk (fun h => (by cases h)) (fun _ => b199_36 ?_)
    exact zfin (S := S) (x := .inr 3) (S' := S) H (by rw [zc_form, zwith_2 c0 hk rfl e, show zfS X = none from eτ]) m2 _ (zRS_fr hR1 hw g1 (by omega)) ⟨_, _, _, _, _, _, _, _, _, _, rfl⟩
theorem zin_0 {n : Nat} {x : Int32} (h2 : n < 2147483648) : zin x.toInt64 0 (Int32.ofNat n - 1).toInt64 = zlin n x := by
  by_cases h1 : 1 ≤ n
  · exact zin_1 h1 h2
  · have : n = 0 := by omega
    subst this
    rw [Bool.eq_iff_iff, zin_iff, Int32.toInt_toInt64, show (Int32.ofNat 0 - 1).toInt64.toInt = -1 by decide, show Int64.toInt 0 = 0 from rfl]
    unfold zlin
    rw [decide_eq_true_iff]
    omega
theorem zin_2 {n : Nat} {x : Int32} (h2 : n < 2147483648) : zin x.toInt64 0 (Int32.ofNat n).toInt64 = zlin (n + 1) x := by
  rw [Bool.eq_iff_iff, zin_iff, Int32.toInt_toInt64, Int32.toInt_toInt64, zN_i h2, show Int64.toInt 0 = 0 from rfl]
  unfold zlin
  rw [decide_eq_true_iff]
  omega
theorem zsp_g {m : Nat → Int32} {A k : Nat} {s : zSt} (hg : zRg m A s) (hk : k ≤ 4) : m (A + k) = zsp s k := by
  obtain ⟨g1, g2, g3, g4, g5⟩ := hg
  have : k = 0 ∨ k = 1 ∨ k = 2 ∨ k = 3 ∨ k = 4 := by omega
  rcases this with rfl | rfl | rfl | rfl | rfl <;> assumption
theorem r_step {K : zKt} {code rf rs pr pn : Int32} {bad : Bool} {J : zJt} {m pa pb pc vf vs : Nat → Int32} {B : zBt} {w : Nat → Int64} {p : Nat × Nat} {Q : zR → zH → Prop} {S : zSs} {a0 a1 a2 : Int32} (hw : zSw S) (hR : zRS m S) (H : ∀ m' h', zRS m' (zc_step S a0 a1 a2).2 → zRH K J B w m' (zcd [0, 2] (zc_step S a0 a1 a2).1) h' → Q (.inl (some (.int (zrv (zc_step S a0 a1 a2).1)))) h') :
    zT zm_205 [.ref 75, .int a0, .int a1, .int a2] p (zh K (code, rf, rs, bad, pr, pn, J) (m, pa, pb, pc, vf, vs, B) w) Q := by
  refine b205 ⟨fun c0 => zfin (S := S) (x := .inr 0) (S' := S) H (by rw [zc_step, if_pos c0]) m _ hR ⟨_, _, _, _, _, _, _, _, _, _, rfl⟩, fun c0 k hk ek => ⟨by omega, fun c => ⟨by omega, ?_⟩, fun c => ⟨fun h => ?_, fun _ => ?_⟩⟩⟩
  · obtain ⟨X, e⟩ := zRS_s hR hw hk c
    have hX := hw k X hk e
    have hb := zRS_b hR hk e
    have hc := hX.2.1
    rw [hb.2.1, zin_0 (by omega)]
    have e0 : zc_step S a0 a1 a2 = if zlin X.2.2.2.2.1 a1 = false then (.inr 0, S) else if zin a2.toInt64 0 4 = false then (.inr 2, S) else (.inl (zsp (X.2.2.2.2.2.2 (znn a1)) (znn a2)), S) := by
      rw [zc_step, if_neg (by rw [c0]; decide), ek, znn_o (by omega), e]
    refine ⟨fun c1 k1 hk1 ek1 => ⟨fun c2 => ?_, fun c2 k2 hk2 ek2 => ?_⟩, fun c1 => ?_⟩
    · exact zfin (S := S) (x := .inr 2) (S' := S) H (by rw [e0, if_neg (by rw [c1]; decide), if_pos c2]) m _ hR ⟨_, _, _, _, _, _, _, _, _, _, rfl⟩
    · obtain ⟨x, hx, ex⟩ := zlin_n c1
      have : k1 = x := zN_inj hk1 (by omega) (ek1.symm.trans ex)
      subst this
      refine ⟨by omega, ?_⟩
      rw [zsp_g (hb.2.2.2.2 k1 hx) hk2.2]
      exact zfin (S := S) (x := .inl (zsp (X.2.2.2.2.2.2 k1) k2)) (S' := S) H (by rw [e0, if_neg (by rw [c1]; decide), if_neg (by rw [c2]; decide), ek1, ek2, znn_o hk1, znn_o (by omega)]) m _ hR ⟨_, _, _, _, _, _, _, _, _, _, rfl⟩
    · exact zfin (S := S) (x := .inr 0) (S' := S) H (by rw [e0, if_pos c1]) m _ hR ⟨_, _, _, _, _, _, _, _, _, _, rfl⟩
  · exfalso
    rw [zin_iff, Int32.toInt_toInt64, show Int64.toInt (-1) = -1 from rfl, show Int64.toInt 0 = 0 from rfl] at h
    omega
  · exact zfin (S := S) (x := .inr 0) (S' := S) H (by rw [zc_step, if_neg (by rw [c0]; decide), ek, znn_o (by omega), zRS_n hR hw hk c]) m _ hR ⟨_, _, _, _, _, _, _, _, _, _, rfl⟩
theorem r_after {K : zKt} {code rf rs pr pn : Int32} {bad : Bool} {J : zJt} {m pa pb pc vf vs : Nat → Int32} {B : zBt} {w : Nat → Int64} {p : Nat × Nat} {Q : zR → zH → Prop} {S : zSs} {a0 a1 a2 a3 a4 : Int32} (hw : zSw S) (hR : zRS m S) (H : ∀ m' h', zRS m' (zc_after S a0 a1 a2 a3 a4).2 → zRH K J B w m' (zcd [0, 1, 2] (zc_after S a0 a1 a2 a3 a4).1) h' → Q (.inl (some (.int (zrv (zc_after S a0 a1 a2 a3 a4).1)))) h') :
    zT zm_206 [.ref 75, .int a0, .int a1, .int a2, .int a3, .int a4] p (zh K (code, rf, rs, bad, pr, pn, J) (m, pa, pb, pc, vf, vs, B) w) Q := by
  refine b206 (s169 hw hR (fun c0 => b206_5 ⟨fun h => absurd h (by decide), fun _ => zfin (S := S) H (zwith_0 c0) m _ hR ⟨_, _, _, _, _, _, _, _, _, _, rfl⟩⟩) (fun k hk ek c0 e => b206_5 ⟨fun h => absurd h (by decide), fun _ => zfin (S := S) H (zwith_1 c0 hk ek e) m _ hR ⟨_, _, _, _, _, _, _, _, _, _, rfl⟩⟩) (fun k X hk ek c0 e => ?_))
  subst ek
  have hX := hw k X hk e
  have hb := zRS_b hR hk e
  have hc := hX.2.1
  have h4 := hX.1.2.2.1
  have h5 := hX.1.2.2.2.2
  have bad2 : ¬ (zlin (X.2.2.2.2.1 + 1) a1 = true ∧ zcel X.2.1 X.2.2.1 a2 a3 = true ∧ zpar a4 = true) → Q (.inl (some (.int (0 : Int32)))) (zh K ((3 : Int32), rf, rs, bad, pr, pn, J) (m, pa, pb, pc, vf, vs, B) w) := by
    intro hn
    exact zfin (S := S) (x := .inr 2) (S' := S) H (by rw [zc_after, zwith_2 c0 hk rfl e, if_neg hn]) m _ hR ⟨_, _, _, _, _, _, _, _, _, _, rfl⟩
  refine b206_5 ⟨fun _ => ⟨1068 * k + 3, zN_a (zN_m rfl rfl) rfl, by omega, ?_⟩, fun h => absurd (by decide) h⟩
  rw [hb.2.1, zin_2 (by omega)]
  refine ⟨fun c1 => bad2 (fun h => by rw [h.1] at c1; cases c1), fun c1 k1 hk1 ek1 => ⟨k, rfl, by omega, ?_⟩⟩
  rw [zhasE_e hX.1 hb.1]
  refine ⟨fun c2 => bad2 (fun h => by rw [h.2.1] at c2; cases c2), fun c2 k2 hk2 ek2 k3 hk3 ek3 => ⟨fun c3 k4 hk4 ek4 => ?_, fun c3 => bad2 (fun h => by unfold zpar at h; rw [h.2.2] at c3; cases c3)⟩⟩
  obtain ⟨z, hz, ez⟩ := zlin_n c1
  have : k1 = z := zN_inj hk1 (by omega) (ek1.symm.trans ez)
  subst this
  obtain ⟨x, y, hx, hy, ex, ey⟩ := zcel_n c2
  have : k2 = x := zN_inj hk2 (by omega) (ek2.symm.trans ex)
  subst this
  have : k3 = y := zN_inj hk3 (by omega) (ek3.symm.trans ey)
  subst this
  refine s173 hk (fun m1 f1 f2 => b206_74 ?_)
  have hb1 := zRb_cp f2 hX.2.1 hb
  have hR1 := zRS_fr hR hw f1 (by omega)
  obtain ⟨F, hF⟩ := zrp_pre hX.2.2.2.2.2 k1 (by omega)
  refine s181 (β := 3204) (g := X.2.2.2.2.2.2) hX.1 (by omega) hb1.1 hb1.2.2.2.1 hX.2.2.2.1 (fun j hj => hX.2.2.2.2.1 j (by omega)) (fun j hj => hb1.2.2.2.2 j (by omega)) (by omega) hF (fun rf' rs' pa' pb' pc' m' g1 g2 => b206_82 ⟨by omega, ?_⟩)
  rw [zpar_v (A := 3208 + 8 * k2 + 2 * k3) (g2 k2 k3 (by omega) (by omega)) hk4.2 ek4]
  exact zfin (S := S) (x := .inl (zpv (F k2 k3) a4)) (S' := S) H (by rw [zc_after, zwith_2 c0 hk rfl e, if_pos ⟨c1, c2, c3⟩, ek1, ek2, ek3, znn_o hk1, znn_o hk2, znn_o hk3, hF]) m' _ (zRS_fr hR1 hw (β := 3204) (fun j hj => g1 j (by omega)) (by omega)) ⟨_, _, _, _, _, _, _, _, _, _, rfl⟩
