/-! INVARIANT: Smith's form of a copy without its log -/
theorem s208 {K : zKt} {code rf rs pr pn : Int32} {bad : Bool} {J : zJt} {m pa pb pc vf vs : Nat → Int32} {B : zBt} {w : Nat → Int64} {p : Nat × Nat} {Q : zR → zH → Prop} {S : zSs} {k : Nat} {X : zMt} (hw : zSw S) (hR : zRS m S) (hk : k < 3) (e : S k = some X)
    (H1 : ∀ t τ, zfS (zfr0 X) = some (t, τ) → ∀ rf' rs' pa' pb' pc' pr' pn' m', zfr 3204 m m' → zRb m' 3204 X.1 X.2.1 X.2.2.1 X.2.2.2.2.2.1 τ → zwf X.1 X.2.1 X.2.2.1 X.2.2.2.2.2.1 τ → Q (.inl (some (.int (Int32.ofNat t)))) (zh K (code, rf', rs', false, pr', pn', J) (m', pa', pb', pc', vf, vs, B) w))
    (H2 : zfS (zfr0 X) = none → ∀ rv rf' rs' pa' pb' pc' pr' pn' m', zfr 3204 m m' → Q (.inl (some (.int rv))) (zh K (code, rf', rs', true, pr', pn', J) (m', pa', pb', pc', vf, vs, B) w)) : zT zm_208 [.ref 75, .int (Int32.ofNat k)] p (zh K (code, rf, rs, bad, pr, pn, J) (m, pa, pb, pc, vf, vs, B) w) Q := by
  have hX := hw k X hk e
  have hb := zRS_b hR hk e
  refine b208 (s173 hk (fun m1 f1 f2 => b208_5 ?_))
  have hb1 := zRb_cp f2 hX.2.1 hb
  refine s146 (β := 3204) (by omega) hb1.1 hb1.2.2.1 (fun m2 g1 g2 => b208_12 ?_)
  refine s200 (β := 3204) (O := X.2.2.2.2.2.1) (σ := (0, X.2.2.2.2.2.1, zg0)) hX.1 (by omega) (⟨rfl, g2 zg0, zwf_0 hX.2.2.1⟩ : zGB false m2 3204 X.1 X.2.1 X.2.2.1 X.2.2.2.2.2.1 (some (0, X.2.2.2.2.2.1, zg0))) (fun t τ eτ rf' rs' pa' pb' pc' pr' pn' m3 k1 k2 => b208_19 ?_) (fun eτ rv rf' rs' pa' pb' pc' pr' pn' m3 k1 k2 => b208_19 ?_)
  · obtain ⟨_, hb3, hw3⟩ := k2
    exact H1 t τ eτ rf' rs' pa' pb' pc' pr' pn' m3 (zfr_t (zfr_t f1 g1) k1) hb3 hw3
  · exact H2 eτ rv rf' rs' pa' pb' pc' pr' pn' m3 (zfr_t (zfr_t f1 g1) k1)
def zc_inva (S : zSs) (a0 a1 a2 : Int32) : (Int32 ⊕ Nat) × zSs := zwith S a0 (fun X => if zcel X.2.1 X.2.2.1 a1 a1 = true ∧ zpar a2 = true then (match zfS (zfr0 X) with
  | none => (.inr 3, S)
  | some q => (.inl (zpv (q.2.2.1 (znn a1) (znn a1)) a2), S)) else (.inr 2, S))
theorem zin_ls {h d : Nat} {x : Int32} (h1 : h ≤ 4) (h2 : d ≤ 4) : zin x.toInt64 0 ((if d ≤ h then Int32.ofNat d else Int32.ofNat h) - 1).toInt64 = zcel h d x x := by
  rw [show (if d ≤ h then Int32.ofNat d else Int32.ofNat h) = Int32.ofNat (if d ≤ h then d else h) by split <;> rfl, zin_0 (by split <;> omega)]
  unfold zlin zcel
  rw [Bool.eq_iff_iff, decide_eq_true_iff, decide_eq_true_iff]
  split <;> omega
theorem s213 {K : zKt} {code rf rs pr pn : Int32} {bad : Bool} {J : zJt} {m pa pb pc vf vs : Nat → Int32} {B : zBt} {w : Nat → Int64} {p : Nat × Nat} {Q : zR → zH → Prop} {k r h d : Nat} (hk : k < 3) (h1 : h ≤ 4) (h2 : d ≤ 4) (hh : zRh m (1068 * k) r h d) (H : Q (.inl (some (.int (if d ≤ h then Int32.ofNat d else Int32.ofNat h)))) (zh K (code, rf, rs, bad, pr, pn, J) (m, pa, pb, pc, vf, vs, B) w)) : zT zm_213 [.ref 75, .int (Int32.ofNat k)] p (zh K (code, rf, rs, bad, pr, pn, J) (m, pa, pb, pc, vf, vs, B) w) Q := by
  refine b213 ?_
  rw [hh.2.1, hh.2.2, zN_leI (by omega) (by omega)]
  refine ⟨by omega, by omega, fun c => ?_, fun c => ?_⟩
  · rw [if_pos c] at H; exact H
  · rw [if_neg c] at H; exact H
theorem r_inva {K : zKt} {code rf rs pr pn : Int32} {bad : Bool} {J : zJt} {m pa pb pc vf vs : Nat → Int32} {B : zBt} {w : Nat → Int64} {p : Nat × Nat} {Q : zR → zH → Prop} {S : zSs} {a0 a1 a2 : Int32} (hw : zSw S) (hR : zRS m S) (H : ∀ m' h', zRS m' (zc_inva S a0 a1 a2).2 → zRH K J B w m' (zcd [0, 1, 2, 3] (zc_inva S a0 a1 a2).1) h' → Q (.inl (some (.int (zrv (zc_inva S a0 a1 a2).1)))) h') : zT zm_212 [.ref 75, .int a0, .int a1, .int a2] p (zh K (code, rf, rs, bad, pr, pn, J) (m, pa, pb, pc, vf, vs, B) w) Q := by
  refine b212 (s169 hw hR (fun c0 => b212_5 ⟨fun h => absurd h (by decide), fun _ => zfin (S := S) H (zwith_0 c0) m _ hR ⟨_, _, _, _, _, _, _, _, _, _, rfl⟩⟩) (fun k hk ek c0 e => b212_5 ⟨fun h => absurd h (by decide), fun _ => zfin (S := S) H (zwith_1 c0 hk ek e) m _ hR ⟨_, _, _, _, _, _, _, _, _, _, rfl⟩⟩) (fun k X hk ek c0 e => ?_))
  have hX := hw k X hk e
  have hb := zRS_b hR hk e
  have h4 := hX.1.2.2.1
  have h5 := hX.1.2.2.2.2
  have bad2 : ¬ (zcel X.2.1 X.2.2.1 a1 a1 = true ∧ zpar a2 = true) → Q (.inl (some (.int (0 : Int32)))) (zh K ((3 : Int32), rf, rs, bad, pr, pn, J) (m, pa, pb, pc, vf, vs, B) w) := fun hn =>
    zfin (S := S) (x := .inr 2) (S' := S) H (by rw [zc_inva, zwith_2 c0 hk ek e, if_neg hn]) m _ hR ⟨_, _, _, _, _, _, _, _, _, _, rfl⟩
  refine b212_5 ⟨fun _ => ?_, fun h => absurd (by decide) h⟩
  rw [ek]
  refine s213 hk h4 h5 hb.1 (b212_27 ?_)
  rw [zin_ls h4 h5]
  refine ⟨fun c1 => bad2 (fun h => by rw [c1] at h; cases h.1), fun c1 => ⟨fun c2 k2 hk2 ek2 => ?_, fun c2 => bad2 (fun h => by unfold zpar at h; rw [c2] at h; cases h.2)⟩⟩
  obtain ⟨x, y, hx, hy, ex, ey⟩ := zcel_n c1
  refine s208 hw hR hk e (fun t τ eτ rf' rs' pa' pb' pc' pr' pn' m' f1 f2 f3 => b212_57 ⟨fun _ => ?_, fun h => (by cases h)⟩) (fun eτ rv rf' rs' pa' pb' pc' pr' pn' m' f1 => b212_57 ⟨fun h => (by cases h), fun _ => ?_⟩)
  · have hxy : x = y := zN_inj (by omega) (by omega) (ex.symm.trans ey)
    subst hxy
    refine ⟨3208 + 8 * x + 2 * x + k2, zN_a (zN_a (zN_a rfl (zN_m rfl ex)) (zN_m rfl ex)) rfl, by omega, ?_⟩
    rw [zpar_v (f2.2.2.1 x x (by omega) (by omega)) hk2.2 ek2]
    exact zfin (S := S) (x := .inl (zpv (τ.2.1 x x) a2)) (S' := S) H (by rw [zc_inva, zwith_2 c0 hk ek e, if_pos ⟨c1, c2⟩, eτ, ex, znn_o (by omega)]) m' _ (zRS_fr hR hw f1 (by omega)) ⟨_, _, _, _, _, _, _, _, _, _, rfl⟩
  · exact zfin (S := S) (x := .inr 3) (S' := S) H (by rw [zc_inva, zwith_2 c0 hk ek e, if_pos ⟨c1, c2⟩, eτ]) m' _ (zRS_fr hR hw f1 (by omega)) ⟨_, _, _, _, _, _, _, _, _, _, rfl⟩
theorem k_inva {P : zPt} {T : Nat → zX} {Y : zYt} {I : zIt} {A : zAt} {w : Nat → Int64} {p : Nat × Nat} {Q : zR → zH → Prop} {S : zSs} {a0 a1 a2 : Int32} (hw : zSw S) (hC : zCS T S) (H : ∀ T' h', zCS T' (zc_inva S a0 a1 a2).2 → zCH Y I A w T' h' → Q (zRo (zc_inva S a0 a1 a2).1) h') : zT zm_124 [.ref 0, .int a0, .int a1, .int a2] p (zh (P, T, Y) I A w) Q := by
  refine b124 ⟨hC.2, fun c k hk ek => ?_, fun c0 => kfin H (zwith_0 c0) T _ hC ⟨P, rfl⟩, fun c => ?_⟩
  · obtain ⟨X, e⟩ := zfil_k hC hk ek c.2
    have hX := hw k X hk e
    have hx := zCS_x hC hk e
    have h4 := hX.1.2.2.1
    have h5 := hX.1.2.2.2.2
    have bad2 : ¬ (zcel X.2.1 X.2.2.1 a1 a1 = true ∧ zpar a2 = true) → Q (.inr 2) (zh (P, T, Y) I A w) := fun hn => kfin (x := .inr 2) (S' := S) H (by rw [zc_inva, zwith_2 c.1 hk ek e, if_neg hn]) T _ hC ⟨P, rfl⟩
    rw [zcell_e hx.1 h4 h5, zprt_e]
    refine ⟨fun c1 => bad2 (fun h => by rw [c1] at h; cases h.1), fun c1 k1 hk1 ek1 => ⟨fun c2 => bad2 (fun h => by rw [c2] at h; cases h.2), fun c2 => ?_⟩⟩
    obtain ⟨x, y, hx4, hy4, ex, ey⟩ := zcel_n c1
    have : k1 = x := zN_inj hk1 (by omega) (ek1.symm.trans ex)
    subst this
    refine s36 (i := 3) (by omega) (by omega) (by omega) hx.1 hx.2.2.1 (fun T1 f1 f2 => b124_41 ?_)
    have hwf := zwf_0 (g := zg0) hX.2.2.1
    have hC1 := zCS_w hC f1 (by omega) (zCX_b hX.1 hwf (f2 zg0))
    refine s82 (i := 3) (by omega) hX.1 (f2 zg0) hwf (fun t τ eτ P2 T2 g1 g2 g3 => b124_48 ⟨zCX_b hX.1 g3 g2, ?_⟩) (fun eτ P2 T2 g1 g2 => ?_)
    · rw [zxat_e (zCX_b hX.1 g3 g2) g2.1 g2.2.2.1 g3.2.1 (by omega) (by omega), zpo_e]
      exact kfin (x := .inl (zpv (τ.2.1 k1 k1) a2)) (S' := S) H (by rw [zc_inva, zwith_2 c.1 hk ek e, if_pos ⟨c1, c2⟩, show zfS (zfr0 X) = some (t, τ) from eτ, ek1, znn_o (by omega)]) T2 _ (zCS_w hC1 g1 (by omega) (zCX_b hX.1 g3 g2)) ⟨P2, rfl⟩
    · exact kfin (x := .inr 3) (S' := S) H (by rw [zc_inva, zwith_2 c.1 hk ek e, if_pos ⟨c1, c2⟩, show zfS (zfr0 X) = none from eτ]) T2 _ (zCS_w hC1 g1 (by omega) g2) ⟨P2, rfl⟩
  · obtain ⟨k, hk, ek, e⟩ := zfil_n hC hw c.1 c.2
    exact kfin H (zwith_1 c.1 hk ek e) T _ hC ⟨P, rfl⟩
