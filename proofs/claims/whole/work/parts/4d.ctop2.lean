/-! THE CLASS'S CALLS: entry, swap, add, scale, hermite, smith, step, entryAfter -/
theorem k_entry {P : zPt} {T : Nat → zX} {Y : zYt} {I : zIt} {A : zAt} {w : Nat → Int64} {p : Nat × Nat} {Q : zR → zH → Prop} {S : zSs} {a0 a1 a2 a3 : Int32} (hw : zSw S) (hC : zCS T S) (H : ∀ T' h', zCS T' (zc_entry S a0 a1 a2 a3).2 → zCH Y I A w T' h' → Q (zRo (zc_entry S a0 a1 a2 a3).1) h') : zT zm_107 [.ref 0, .int a0, .int a1, .int a2, .int a3] p (zh (P, T, Y) I A w) Q := by
  refine b107 ⟨hC.2, fun c k hk ek => ?_, fun c0 => kfin H (zwith_0 c0) T _ hC ⟨P, rfl⟩, fun c => ?_⟩
  · obtain ⟨X, e⟩ := zfil_k hC hk ek c.2
    have hX := hw k X hk e
    have hx := zCS_x hC hk e
    have h4 := hX.1.2.2.1
    have h5 := hX.1.2.2.2.2
    have bad2 : ¬ (zcel X.2.1 X.2.2.1 a1 a2 = true ∧ zpar a3 = true) → Q (.inr 2) (zh (P, T, Y) I A w) := fun hn => kfin (x := .inr 2) (S' := S) H (by rw [zc_entry, zwith_2 c.1 hk ek e, if_neg hn]) T _ hC ⟨P, rfl⟩
    rw [zcell_e hx.1 h4 h5, zprt_e]
    refine ⟨fun c1 => bad2 (fun h => by rw [c1] at h; cases h.1), fun c1 k1 hk1 ek1 k2 hk2 ek2 => ⟨fun c2 => bad2 (fun h => by rw [c2] at h; cases h.2), fun c2 => ⟨hC.2 k, ?_⟩⟩⟩
    rw [zxat_e (hC.2 k) hx.1 hx.2.2.1 hX.2.2.1 hk1 hk2, zpo_e]
    exact kfin (x := .inl (zpv (X.2.2.2.2.2.1 k1 k2) a3)) (S' := S) H (by rw [zc_entry, zwith_2 c.1 hk ek e, if_pos ⟨c1, c2⟩, ek1, ek2, znn_o hk1, znn_o hk2]) T _ hC ⟨P, rfl⟩
  · obtain ⟨k, hk, ek, e⟩ := zfil_n hC hw c.1 c.2
    exact kfin H (zwith_1 c.1 hk ek e) T _ hC ⟨P, rfl⟩
/-- a step on a slot -/
theorem k_do {P : zPt} {T : Nat → zX} {Y : zYt} {I : zIt} {A : zAt} {w : Nat → Int64} {p : Nat × Nat} {Q : zR → zH → Prop} {S : zSs} {k : Nat} {X : zMt} {s : zSt} {kk jj : Int32} (hw : zSw S) (hC : zCS T S) (hk : k < 3) (e : S k = some X) (hs : zsv X.1 X.2.1 X.2.2.1 s) (hkk : kk = Int32.ofNat s.1) (hj : jj = zsj s) (H1 : ∀ τ, zdo X.1 X.2.1 X.2.2.1 s X.2.2.2.2 = some τ → ∀ P' T', zCS T' (zup S k (X.1, X.2.1, X.2.2.1, X.2.2.2.1, τ)) → (T' k).2.2.2.1 = τ.1 → Q (.inl none) (zh (P', T', Y) I A w)) (H2 : zdo X.1 X.2.1 X.2.2.1 s X.2.2.2.2 = none → ∀ P' T', zCS T' S → Q (.inr 3) (zh (P', T', Y) I A w)) :
    zT zm_39 [.ref (21 + 8 * k), .int kk, .int (Int32.ofNat s.2.1), .int jj, .long (zen s.2.2.2)] p (zh (P, T, Y) I A w) Q := by
  have hX := hw k X hk e
  have hx := zCS_x hC hk e
  refine s39 (by omega) hX.1 hx hX.2 hs hkk rfl hj (fun τ eτ P' T' f1 f2 => H1 τ eτ P' T' (zCS_up hC f1 f2 ⟨hX.1, zdo_w hX.1.1 hX.2 hs eτ⟩) f2.2.1) (fun eτ P' T' f1 f2 => H2 eτ P' T' (zCS_s hC hk e f1 f2 hX))
theorem zkd_e (k : Nat) (c : Bool) : zkd k c = bif c then k + 3 else k := rfl
theorem k_swap {P : zPt} {T : Nat → zX} {Y : zYt} {I : zIt} {A : zAt} {w : Nat → Int64} {p : Nat × Nat} {Q : zR → zH → Prop} {S : zSs} {a0 a2 a3 : Int32} {c : Bool} (hw : zSw S) (hC : zCS T S) (H : ∀ T' h', zCS T' (zc_swap S a0 c a2 a3).2 → zCH Y I A w T' h' → Q (zRo (zc_swap S a0 c a2 a3).1) h') : zT zm_110 [.ref 0, .int a0, .int (zbi c), .int a2, .int a3] p (zh (P, T, Y) I A w) Q := by
  refine b110 ⟨hC.2, fun c1 k hk ek => ?_, fun c0 => kfin H (zwith_0 c0) T _ hC ⟨P, rfl⟩, fun c1 => ?_⟩
  · obtain ⟨X, e⟩ := zfil_k hC hk ek c1.2
    subst ek
    have hX := hw k X hk e
    have hx := zCS_x hC hk e
    have h4 := hX.1.2.2.1
    have h5 := hX.1.2.2.2.2
    have h6 := zll_le hX.1 c
    have bad2 : ¬ (zlin (zll X.2.1 X.2.2.1 c) a2 = true ∧ zlin (zll X.2.1 X.2.2.1 c) a3 = true ∧ a2 ≠ a3) → Q (.inr 2) (zh (P, T, Y) I A w) := fun hn => kfin (x := .inr 2) (S' := S) H (by rw [zc_swap, zwith_2 c1.1 hk rfl e, if_neg hn]) T _ hC ⟨P, rfl⟩
    rw [zisl_e hx.1 h4 h5, zisl_e hx.1 h4 h5]
    refine ⟨fun c2 => bad2 (fun h => by rw [h.1] at c2; cases c2), fun c2 k2 hk2 ek2 => ⟨fun c3 => bad2 (fun h => by rw [h.2.1] at c3; cases c3), fun c3 k3 hk3 ek3 => ⟨fun heq => bad2 (fun h => h.2.2 (by rw [ek2, ek3, heq])), fun hne => ?_⟩⟩⟩
    obtain ⟨x, hx2, ex⟩ := zlin_n c2
    obtain ⟨y, hy2, ey⟩ := zlin_n c3
    have : k2 = x := zN_inj hk2 (by omega) (ek2.symm.trans ex)
    subst this
    have : k3 = y := zN_inj hk3 (by omega) (ek3.symm.trans ey)
    subst this
    subst ek2 ek3
    have e2 : zc_swap S (Int32.ofNat k) c (Int32.ofNat k2) (Int32.ofNat k3) = zdoS S (Int32.ofNat k) X (bif c then 3 else 0, k2, k3, (0, 0)) := by
      rw [zc_swap, zwith_2 c1.1 hk rfl e, if_pos ⟨c2, c3, fun h => hne (zN_inj hk2 hk3 h)⟩, znn_o hk2, znn_o hk3]
    rw [← zen_0]
    have hj : Int32.ofNat k3 = zsj (bif c then 3 else 0, k2, k3, ((0 : Int32), (0 : Int32))) := by
      refine (zsj_n (s := (bif c then 3 else 0, k2, k3, ((0 : Int32), (0 : Int32)))) ?_).symm
      cases c
      · show 0 % 3 ≠ 2; decide
      · show 3 % 3 ≠ 2; decide
    have hkk : Int32.ofNat (zkd 0 c) = Int32.ofNat (bif c then 3 else 0) := by cases c <;> rfl
    refine k_do (s := (bif c then 3 else 0, k2, k3, (0, 0))) hw hC hk e (zswp_sv hX.1.1 c hy2 hx2 (fun h => hne h.symm)) hkk hj (fun τ eτ P' T' f1 f2 => b110_56 (by omega) ?_) (fun eτ P' T' f1 => ?_)
    · rw [f2]
      exact kfin H (e2.trans (zdoS_s hk eτ)) T' _ f1 ⟨P', rfl⟩
    · exact kfin H (e2.trans (zdoS_n eτ)) T' _ f1 ⟨P', rfl⟩
  · obtain ⟨k, hk, ek, e⟩ := zfil_n hC hw c1.1 c1.2
    exact kfin H (zwith_1 c1.1 hk ek e) T _ hC ⟨P, rfl⟩
theorem k_add {P : zPt} {T : Nat → zX} {Y : zYt} {I : zIt} {A : zAt} {w : Nat → Int64} {p : Nat × Nat} {Q : zR → zH → Prop} {S : zSs} {a0 a2 a3 a4 a5 : Int32} {c : Bool} (hw : zSw S) (hC : zCS T S) (H : ∀ T' h', zCS T' (zc_add S a0 c a2 a3 a4 a5).2 → zCH Y I A w T' h' → Q (zRo (zc_add S a0 c a2 a3 a4 a5).1) h') : zT zm_112 [.ref 0, .int a0, .int (zbi c), .int a2, .int a3, .int a4, .int a5] p (zh (P, T, Y) I A w) Q := by
  refine b112 ⟨hC.2, fun c1 k hk ek => ?_, fun c0 => kfin H (zwith_0 c0) T _ hC ⟨P, rfl⟩, fun c1 => ?_⟩
  · obtain ⟨X, e⟩ := zfil_k hC hk ek c1.2
    subst ek
    have hX := hw k X hk e
    have hx := zCS_x hC hk e
    have h4 := hX.1.2.2.1
    have h5 := hX.1.2.2.2.2
    have h6 := zll_le hX.1 c
    have bad2 : ¬ (zlin (zll X.2.1 X.2.2.1 c) a2 = true ∧ zlin (zll X.2.1 X.2.2.1 c) a3 = true ∧ a2 ≠ a3 ∧ zise (Int32.ofNat X.1) a4 a5 = true) → Q (.inr 2) (zh (P, T, Y) I A w) := fun hn => kfin (x := .inr 2) (S' := S) H (by rw [zc_add, zwith_2 c1.1 hk rfl e, if_neg hn]) T _ hC ⟨P, rfl⟩
    rw [zisl_e hx.1 h4 h5, zisl_e hx.1 h4 h5, hx.1.1]
    refine ⟨fun c2 => bad2 (fun h => by rw [h.1] at c2; cases c2), fun c2 k2 hk2 ek2 => ⟨fun c3 => bad2 (fun h => by rw [h.2.1] at c3; cases c3), fun c3 k3 hk3 ek3 => ⟨fun heq => bad2 (fun h => h.2.2.1 (by rw [ek2, ek3, heq])), fun hne => c_inr hX.1.1 (b112_56 (by omega) ⟨fun c4 => ?_, fun c4 => bad2 (fun h => by rw [c4] at h; cases h.2.2.2)⟩)⟩⟩⟩
    obtain ⟨x, hx2, ex⟩ := zlin_n c2
    obtain ⟨y, hy2, ey⟩ := zlin_n c3
    have : k2 = x := zN_inj hk2 (by omega) (ek2.symm.trans ex)
    subst this
    have : k3 = y := zN_inj hk3 (by omega) (ek3.symm.trans ey)
    subst this
    subst ek2 ek3
    have e2 : zc_add S (Int32.ofNat k) c (Int32.ofNat k2) (Int32.ofNat k3) a4 a5 = zdoS S (Int32.ofNat k) X (bif c then 4 else 1, k2, k3, (a4, a5)) := by
      rw [zc_add, zwith_2 c1.1 hk rfl e, if_pos ⟨c2, c3, fun h => hne (zN_inj hk2 hk3 h), c4⟩, znn_o hk2, znn_o hk3]
    have hj : Int32.ofNat k3 = zsj (bif c then 4 else 1, k2, k3, (a4, a5)) := by
      refine (zsj_n (s := (bif c then 4 else 1, k2, k3, (a4, a5))) ?_).symm
      cases c
      · show 1 % 3 ≠ 2; decide
      · show 4 % 3 ≠ 2; decide
    have hkk : Int32.ofNat (zkd 1 c) = Int32.ofNat (bif c then 4 else 1) := by cases c <;> rfl
    refine k_do (s := (bif c then 4 else 1, k2, k3, (a4, a5))) hw hC hk e (zadd_sv hx2 hy2 hne ((zise_ok hX.1.1).mp c4)) hkk hj (fun τ eτ P' T' f1 f2 => b112_81 (by omega) ?_) (fun eτ P' T' f1 => ?_)
    · rw [f2]
      exact kfin H (e2.trans (zdoS_s hk eτ)) T' _ f1 ⟨P', rfl⟩
    · exact kfin H (e2.trans (zdoS_n eτ)) T' _ f1 ⟨P', rfl⟩
  · obtain ⟨k, hk, ek, e⟩ := zfil_n hC hw c1.1 c1.2
    exact kfin H (zwith_1 c1.1 hk ek e) T _ hC ⟨P, rfl⟩
theorem k_scale {P : zPt} {T : Nat → zX} {Y : zYt} {I : zIt} {A : zAt} {w : Nat → Int64} {p : Nat × Nat} {Q : zR → zH → Prop} {S : zSs} {a0 a2 a3 a4 : Int32} {c : Bool} (hw : zSw S) (hC : zCS T S) (H : ∀ T' h', zCS T' (zc_scale S a0 c a2 a3 a4).2 → zCH Y I A w T' h' → Q (zRo (zc_scale S a0 c a2 a3 a4).1) h') : zT zm_113 [.ref 0, .int a0, .int (zbi c), .int a2, .int a3, .int a4] p (zh (P, T, Y) I A w) Q := by
  refine b113 ⟨hC.2, fun c1 k hk ek => ?_, fun c0 => kfin H (zwith_0 c0) T _ hC ⟨P, rfl⟩, fun c1 => ?_⟩
  · obtain ⟨X, e⟩ := zfil_k hC hk ek c1.2
    subst ek
    have hX := hw k X hk e
    have hx := zCS_x hC hk e
    have h4 := hX.1.2.2.1
    have h5 := hX.1.2.2.2.2
    have h6 := zll_le hX.1 c
    have bad2 : ∀ P', ¬ (zlin (zll X.2.1 X.2.2.1 c) a2 = true ∧ zisu (Int32.ofNat X.1) a3 a4 = true) → Q (.inr 2) (zh (P', T, Y) I A w) := fun P' hn => kfin (x := .inr 2) (S' := S) H (by rw [zc_scale, zwith_2 c1.1 hk rfl e, if_neg hn]) T _ hC ⟨P', rfl⟩
    rw [zisl_e hx.1 h4 h5, hx.1.1]
    refine ⟨fun c2 => bad2 P (fun h => by rw [h.1] at c2; cases c2), fun c2 k2 hk2 ek2 => c_inr hX.1.1 (b113_31 (by omega) ⟨fun c3 => bad2 P (fun h => ?_), fun c3 => ?_⟩)⟩
    · have := (zise_ok hX.1.1).mpr (zun_ok hX.1.1 ((zisu_ok hX.1.1).mp h.2))
      rw [this] at c3; cases c3
    · obtain ⟨x, hx2, ex⟩ := zlin_n c2
      have : k2 = x := zN_inj hk2 (by omega) (ek2.symm.trans ex)
      subst this
      subst ek2
      have hok := (zise_ok hX.1.1).mp c3
      rw [hx.1.1]
      refine c_unit (a := (a3, a4)) hX.1.1 hok (fun hu P' => b113_63 (rv := true) (by omega) ⟨fun _ => ?_, fun h => (by cases h)⟩) (fun hu P' => b113_63 (rv := false) (by omega) ⟨fun h => (by cases h), fun _ => bad2 P' (fun h => hu ((zisu_ok hX.1.1).mp h.2))⟩)
      have e2 : zc_scale S (Int32.ofNat k) c (Int32.ofNat k2) a3 a4 = zdoS S (Int32.ofNat k) X (bif c then 5 else 2, k2, 0, (a3, a4)) := by
        rw [zc_scale, zwith_2 c1.1 hk rfl e, if_pos ⟨c2, (zisu_ok hX.1.1).mpr hu⟩, znn_o hk2]
      have hj : (-1 : Int32) = zsj (bif c then 5 else 2, k2, 0, (a3, a4)) := by
        unfold zsj
        rw [if_pos]
        cases c
        · show 2 % 3 = 2; rfl
        · show 5 % 3 = 2; rfl
      have hkk : Int32.ofNat (zkd 2 c) = Int32.ofNat (bif c then 5 else 2) := by cases c <;> rfl
      refine k_do (s := (bif c then 5 else 2, k2, 0, (a3, a4))) hw hC hk e (zscl_sv hX.1.1 c hx2 hu) hkk hj (fun τ eτ P' T' f1 f2 => b113_80 (by omega) ?_) (fun eτ P' T' f1 => ?_)
      · rw [f2]
        exact kfin H (e2.trans (zdoS_s hk eτ)) T' _ f1 ⟨P', rfl⟩
      · exact kfin H (e2.trans (zdoS_n eτ)) T' _ f1 ⟨P', rfl⟩
  · obtain ⟨k, hk, ek, e⟩ := zfil_n hC hw c1.1 c1.2
    exact kfin H (zwith_1 c1.1 hk ek e) T _ hC ⟨P, rfl⟩
theorem k_hermite {P : zPt} {T : Nat → zX} {Y : zYt} {I : zIt} {A : zAt} {w : Nat → Int64} {p : Nat × Nat} {Q : zR → zH → Prop} {S : zSs} {a0 : Int32} (hw : zSw S) (hC : zCS T S) (H : ∀ T' h', zCS T' (zc_form S a0 zfH).2 → zCH Y I A w T' h' → Q (zRo (zc_form S a0 zfH).1) h') : zT zm_116 [.ref 0, .int a0] p (zh (P, T, Y) I A w) Q := by
  refine b116 ⟨hC.2, fun c1 k hk ek => ?_, fun c0 => kfin H (zwith_0 c0) T _ hC ⟨P, rfl⟩, fun c1 => ?_⟩
  · obtain ⟨X, e⟩ := zfil_k hC hk ek c1.2
    subst ek
    have hX := hw k X hk e
    have hx := zCS_x hC hk e
    refine s33 (i := 3) (by omega) (by omega) hx hX.2.1 (fun T1 f1 f2 => b116_14 ?_)
    have hC1 := zCS_w hC f1 (by omega) (zCX_b hX.1 hX.2 f2)
    refine s11 (i := 3) (by omega) hX.1 f2 hX.2 (fun ρ τ eτ P2 T2 g1 g2 g3 => b116_21 (by omega) ?_) (fun eτ P2 T2 g1 g2 => ?_)
    · have hC2 := zCS_w hC1 g1 (by omega) (zCX_b hX.1 g3 g2)
      refine s33 (j := 3) (by omega) (by omega) g2 g3.1 (fun T3 k1 k2 => b116_30 ?_)
      exact kfin (x := .inl (Int32.ofNat ρ)) (S' := zup S k (X.1, X.2.1, X.2.2.1, X.2.2.2.1, τ)) H (by rw [zc_form, zwith_2 c1.1 hk rfl e, show zfH X = some (ρ, τ) from eτ, znn_o (by omega)]) T3 _ (zCS_up hC2 k1 k2 ⟨hX.1, g3⟩) ⟨P2, rfl⟩
    · exact kfin (x := .inr 3) (S' := S) H (by rw [zc_form, zwith_2 c1.1 hk rfl e, show zfH X = none from eτ]) T2 _ (zCS_w hC1 g1 (by omega) g2) ⟨P2, rfl⟩
  · obtain ⟨k, hk, ek, e⟩ := zfil_n hC hw c1.1 c1.2
    exact kfin H (zwith_1 c1.1 hk ek e) T _ hC ⟨P, rfl⟩
theorem k_smith {P : zPt} {T : Nat → zX} {Y : zYt} {I : zIt} {A : zAt} {w : Nat → Int64} {p : Nat × Nat} {Q : zR → zH → Prop} {S : zSs} {a0 : Int32} (hw : zSw S) (hC : zCS T S) (H : ∀ T' h', zCS T' (zc_form S a0 zfS).2 → zCH Y I A w T' h' → Q (zRo (zc_form S a0 zfS).1) h') : zT zm_117 [.ref 0, .int a0] p (zh (P, T, Y) I A w) Q := by
  refine b117 ⟨hC.2, fun c1 k hk ek => ?_, fun c0 => kfin H (zwith_0 c0) T _ hC ⟨P, rfl⟩, fun c1 => ?_⟩
  · obtain ⟨X, e⟩ := zfil_k hC hk ek c1.2
    subst ek
    have hX := hw k X hk e
    have hx := zCS_x hC hk e
    refine s33 (i := 3) (by omega) (by omega) hx hX.2.1 (fun T1 f1 f2 => b117_14 ?_)
    have hC1 := zCS_w hC f1 (by omega) (zCX_b hX.1 hX.2 f2)
    refine s82 (i := 3) (by omega) hX.1 f2 hX.2 (fun ρ τ eτ P2 T2 g1 g2 g3 => b117_21 (by omega) ?_) (fun eτ P2 T2 g1 g2 => ?_)
    · have hC2 := zCS_w hC1 g1 (by omega) (zCX_b hX.1 g3 g2)
      refine s33 (j := 3) (by omega) (by omega) g2 g3.1 (fun T3 k1 k2 => b117_30 ?_)
      exact kfin (x := .inl (Int32.ofNat ρ)) (S' := zup S k (X.1, X.2.1, X.2.2.1, X.2.2.2.1, τ)) H (by rw [zc_form, zwith_2 c1.1 hk rfl e, show zfS X = some (ρ, τ) from eτ, znn_o (by omega)]) T3 _ (zCS_up hC2 k1 k2 ⟨hX.1, g3⟩) ⟨P2, rfl⟩
    · exact kfin (x := .inr 3) (S' := S) H (by rw [zc_form, zwith_2 c1.1 hk rfl e, show zfS X = none from eτ]) T2 _ (zCS_w hC1 g1 (by omega) g2) ⟨P2, rfl⟩
  · obtain ⟨k, hk, ek, e⟩ := zfil_n hC hw c1.1 c1.2
    exact kfin H (zwith_1 c1.1 hk ek e) T _ hC ⟨P, rfl⟩
theorem k_step {P : zPt} {T : Nat → zX} {Y : zYt} {I : zIt} {A : zAt} {w : Nat → Int64} {p : Nat × Nat} {Q : zR → zH → Prop} {S : zSs} {a0 a1 a2 : Int32} (hw : zSw S) (hC : zCS T S) (H : ∀ T' h', zCS T' (zc_step S a0 a1 a2).2 → zCH Y I A w T' h' → Q (zRo (zc_step S a0 a1 a2).1) h') : zT zm_119 [.ref 0, .int a0, .int a1, .int a2] p (zh (P, T, Y) I A w) Q := by
  have li : ∀ {x y : Int32}, x < y ↔ x.toInt < y.toInt := Int32.lt_iff_toInt_lt
  refine b119 ⟨fun c0 k hk ek => ?_, fun c0 => kfin (x := .inr 0) (S' := S) H (by rw [zc_step, if_pos c0]) T _ hC ⟨P, rfl⟩⟩
  cases e : S k with
  | none =>
    have h0 := (zCS_n hC hk e).2.2
    have b0 := kfin (x := .inr 0) (S' := S) H (by rw [zc_step, if_neg (by rw [c0]; decide), ek, znn_o (by omega), e]) T _ hC ⟨P, rfl⟩
    exact ⟨fun _ => b0, fun _ k1 hk1 ek1 => ⟨by omega, fun h => by omega, fun _ => b0⟩⟩
  | some X =>
    have hX := hw k X hk e
    have hx := zCS_x hC hk e
    have hc := hX.2.1
    have ec := hx.2.1
    have e0 : zc_step S a0 a1 a2 = if zlin X.2.2.2.2.1 a1 = false then (.inr 0, S) else if zin a2.toInt64 0 4 = false then (.inr 2, S) else (.inl (zsp (X.2.2.2.2.2.2 (znn a1)) (znn a2)), S) := by
      rw [zc_step, if_neg (by rw [c0]; decide), ek, znn_o (by omega), e]
    have b0 : ¬ (0 ≤ a1.toInt ∧ a1.toInt < (X.2.2.2.2.1 : Int)) → Q (.inr 0) (zh (P, T, Y) I A w) := fun hn => kfin (x := .inr 0) (S' := S) H (by rw [e0, if_pos (zlin_f.mpr hn)]) T _ hC ⟨P, rfl⟩
    refine ⟨fun c1 => b0 (fun h => by rw [li, Int32.toInt_zero] at c1; omega), fun c1 k1 hk1 ek1 => ⟨by omega, fun hlt => ?_, fun hge => b0 (fun h => by rw [ek1, zN_i hk1] at h; omega)⟩⟩
    have hl : zlin X.2.2.2.2.1 a1 = true := by unfold zlin; rw [decide_eq_true_iff, ek1, zN_i hk1]; omega
    have b2 : ¬ (0 ≤ a2.toInt ∧ a2.toInt ≤ 4) → Q (.inr 2) (zh (P, T, Y) I A w) := by
      intro hn
      have : zin a2.toInt64 0 4 = false := by
        rw [← Bool.not_eq_true, zin_iff, Int32.toInt_toInt64, show Int64.toInt 0 = 0 from rfl, show Int64.toInt 4 = 4 from rfl]; exact hn
      exact kfin (x := .inr 2) (S' := S) H (by rw [e0, if_neg (by rw [hl]; decide), if_pos this]) T _ hC ⟨P, rfl⟩
    obtain ⟨g1, g2, g3, g4⟩ := hx.2.2.2.2 k1 (by omega)
    refine ⟨fun c2 => b2 (fun h => by rw [li, Int32.toInt_zero] at c2; omega), fun c2 k2 hk2 ek2 => ⟨fun c3 => b2 (fun h => by rw [ek2, zN_i hk2] at h; omega), fun c3 => ?_⟩⟩
    have hin : zin a2.toInt64 0 4 = true := by
      rw [zin_iff, Int32.toInt_toInt64, ek2, zN_i hk2, show Int64.toInt 0 = 0 from rfl, show Int64.toInt 4 = 4 from rfl]; omega
    have fin : ∀ v, v = zsp (X.2.2.2.2.2.2 k1) k2 → Q (.inl (some (.int v))) (zh (P, T, Y) I A w) := by
      intro v ev
      subst ev
      exact kfin (x := .inl (zsp (X.2.2.2.2.2.2 k1) k2)) (S' := S) H (by rw [e0, if_neg (by rw [hl]; decide), if_neg (by rw [hin]; decide), ek1, ek2, znn_o hk1, znn_o hk2]) T _ hC ⟨P, rfl⟩
    refine ⟨fun d0 => ⟨fun d1 => ⟨fun d2 => ⟨by omega, fin _ ?_⟩, fun d2 => ⟨by omega, fin _ (by rw [d2]; exact g3)⟩⟩, fun d1 => ⟨by omega, fin _ (by rw [d1]; exact g2)⟩⟩, fun d0 => ⟨by omega, fin _ (by rw [d0]; exact g1)⟩⟩
    rw [g4, zpo_e]
    have : k2 = 3 ∨ k2 = 4 := by omega
    rcases this with rfl | rfl
    · rfl
    · rfl
theorem k_after {P : zPt} {T : Nat → zX} {Y : zYt} {I : zIt} {A : zAt} {w : Nat → Int64} {p : Nat × Nat} {Q : zR → zH → Prop} {S : zSs} {a0 a1 a2 a3 a4 : Int32} (hw : zSw S) (hC : zCS T S) (H : ∀ T' h', zCS T' (zc_after S a0 a1 a2 a3 a4).2 → zCH Y I A w T' h' → Q (zRo (zc_after S a0 a1 a2 a3 a4).1) h') : zT zm_120 [.ref 0, .int a0, .int a1, .int a2, .int a3, .int a4] p (zh (P, T, Y) I A w) Q := by
  have li : ∀ {x y : Int32}, x < y ↔ x.toInt < y.toInt := Int32.lt_iff_toInt_lt
  refine b120 ⟨hC.2, fun c1 k hk ek => ?_, fun c0 => kfin H (zwith_0 c0) T _ hC ⟨P, rfl⟩, fun c1 => ?_⟩
  · obtain ⟨X, e⟩ := zfil_k hC hk ek c1.2
    subst ek
    have hX := hw k X hk e
    have hx := zCS_x hC hk e
    have hc := hX.2.1
    have ec := hx.2.1
    have h4 := hX.1.2.2.1
    have h5 := hX.1.2.2.2.2
    have bad2 : ¬ (zlin (X.2.2.2.2.1 + 1) a1 = true ∧ zcel X.2.1 X.2.2.1 a2 a3 = true ∧ zpar a4 = true) → Q (.inr 2) (zh (P, T, Y) I A w) := fun hn => kfin (x := .inr 2) (S' := S) H (by rw [zc_after, zwith_2 c1.1 hk rfl e, if_neg hn]) T _ hC ⟨P, rfl⟩
    have lz : zlin (X.2.2.2.2.1 + 1) a1 = true ↔ 0 ≤ a1.toInt ∧ a1.toInt < ((X.2.2.2.2.1 + 1 : Nat) : Int) := by unfold zlin; rw [decide_eq_true_iff]
    rw [zcell_e hx.1 h4 h5, zprt_e]
    refine ⟨fun c2 => bad2 (fun h => by have := lz.mp h.1; rw [li, Int32.toInt_zero] at c2; omega), fun c2 k1 hk1 ek1 => ⟨by omega, fun c3 => bad2 (fun h => by have := lz.mp h.1; rw [ek1, zN_i hk1] at this; omega), fun c3 => ⟨fun c4 => bad2 (fun h => by rw [h.2.1] at c4; cases c4), fun c4 k2 hk2 ek2 k3 hk3 ek3 => ⟨fun c5 => bad2 (fun h => by rw [h.2.2] at c5; cases c5), fun c5 => ?_⟩⟩⟩⟩
    obtain ⟨F, hF⟩ := zrp_pre hX.2.2.2.2.2 k1 (by omega)
    have hFw := zrp_w hX.1.1 hX.2.2.2.1 (fun j hj => hX.2.2.2.2.1 j (by omega)) hF
    refine s45 (i := 3) (by omega) (by omega) (by omega) hX.1 hx hX.2 (by omega) hF (hC.2 3).2.2 (fun P' T' f1 f2 => b120_65 ?_)
    have hxb : zXb (T' 3) := zCX_b hX.1 (zwf_0 (g := zg0) hFw) (f2 zg0)
    refine ⟨hxb, ?_⟩
    rw [zxat_e hxb (f2 zg0).1 (f2 zg0).2.2.1 hFw hk2 hk3, zpo_e]
    exact kfin (x := .inl (zpv (F k2 k3) a4)) (S' := S) H (by rw [zc_after, zwith_2 c1.1 hk rfl e, if_pos ⟨lz.mpr (by rw [ek1, zN_i hk1]; omega), c4, c5⟩, ek1, ek2, ek3, znn_o hk1, znn_o hk2, znn_o hk3, hF]) T' _ (zCS_w hC f1 (by omega) hxb) ⟨P', rfl⟩
  · obtain ⟨k, hk, ek, e⟩ := zfil_n hC hw c1.1 c1.2
    exact kfin H (zwith_1 c1.1 hk ek e) T _ hC ⟨P, rfl⟩
