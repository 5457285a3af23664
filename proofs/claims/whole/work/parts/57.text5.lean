/-! TEXTS: the class's calls -/
theorem b89y {P : zPt} {T : Nat → zX} {yc uc : Nat → Int32} {yl ul dp dw : Nat} {df : Int32} {dx : Bool} {dc : Nat → Int64} {I : zIt} {A : zAt} {w : Nat → Int64} {p : Nat × Nat} {Q : zR → zH → Prop} {a0 : Int32} (H : (yl < 2147483648 ∧ ((yl < 0 → Q (.inl none) (zh (P, T, (yc, yl), (uc, ul), (dc, dp, df, dw, dx)) I A w)) ∧ (0 ≤ yl → ((120 ≤ yl → Q (.inl none) (zh (P, T, (yc, yl), (uc, ul), (dc, dp, df, dw, dx)) I A w)) ∧ (yl < 120 → (yl < 120 ∧ Q (.inl none) (zh (P, T, ((va_up yc yl a0), (yl + 1)), (uc, ul), (dc, dp, df, dw, dx)) I A w)))))))) : zT zm_89 [.ref 69, .int a0] p (zh (P, T, (yc, yl), (uc, ul), (dc, dp, df, dw, dx)) I A w) Q := by
  change zW zm_89 0 [some (.ref 69), some (.int a0)] [] p _ Q
  obtain ⟨h1, H⟩ := H
  refine zW_bh (zcmp .lt (Int32.ofNat yl) (0 : Int32)) 39 7 [some (.ref 69), some (.int a0)] [] 3 (fun f => rfl) (fun c => ?_) (fun c => ?_)
  · have c9 : yl < 0 := (of_decide_eq_true ((zcN_lt (a := yl) (b := 0) rfl rfl h1 (by decide)).symm.trans c))
    replace H := H.1 c9
    exact zW_rh none 1 (fun f => rfl) H
  · have c9 : 0 ≤ yl := (Nat.le_of_not_lt (of_decide_eq_false ((zcN_lt (a := yl) (b := 0) rfl rfl h1 (by decide)).symm.trans c)))
    replace H := H.2 c9
    refine zW_bh (zcmp .ge (Int32.ofNat yl) (Int32.ofNat 120)) 39 19 [some (.ref 69), some (.int a0)] [] 6 (fun f => rfl) (fun c => ?_) (fun c => ?_)
    · have c9 : 120 ≤ yl := (of_decide_eq_true ((zcN_ge (a := yl) (b := 120) rfl rfl h1 (by decide)).symm.trans c))
      replace H := H.1 c9
      exact zW_rh none 1 (fun f => rfl) H
    · have c9 : yl < 120 := (Nat.lt_of_not_le (of_decide_eq_false ((zcN_ge (a := yl) (b := 120) rfl rfl h1 (by decide)).symm.trans c)))
      replace H := H.2 c9
      refine zW_gh 28 [some (.ref 69), some (.int a0)] [.int a0, .int (Int32.ofNat yl), .ref 70] 5 (fun f => rfl) ?_
      obtain ⟨h2, H⟩ := H
      refine zW_iast rfl (by decide) rfl (by decide) zu_70 rfl h2 ?_
      refine zW_gh 36 [some (.ref 69), some (.int a0)] [.int ((Int32.ofNat yl) + (1 : Int32)), .ref 69] 5 (fun f => rfl) ?_
      rw [show ((Int32.ofNat yl) + (1 : Int32)) = Int32.ofNat (yl + 1) from (zN_a rfl rfl)]
      refine zW_go (pc' := 39) (L' := [some (.ref 69), some (.int a0)]) (st' := []) (h' := (va_up (zh (P, T, ((va_up yc yl a0), yl), (uc, ul), (dc, dp, df, dw, dx)) I A w) 69 (.inr (5, [.ref 70, .int (Int32.ofNat (yl + 1))])))) 1 (fun f => rfl) ?_
      refine zW_eq zu_69 ?_
      exact zW_rh none 1 (fun f => rfl) H
theorem k_type {w : Nat → Int64} {p : Nat × Nat} {Q : zR → zH → Prop} {S : zSs} {X : zXt} {K : zKt} {I : zIt} {A : zAt} {a0 : Int32} (hX : zXw X) (h : zCA S X K) (H : ∀ K', zCA S (zt_type X a0).2 K' → Q (zRo (zt_type X a0).1) (zh K' I A w)) : zT zm_132 [.ref 0, .int a0] p (zh K I A w) Q := by
  obtain ⟨P, T, ⟨⟨yc, yl⟩, ⟨uc, ul⟩, ⟨dc, dp, df, dw, dx⟩⟩, rfl, hC, j1, j2, j3⟩ := h
  have j1 : yl = X.2.1 := j1
  subst j1
  have hl := hX.1
  have ez : ∀ k, k < 2147483648 → zin (Int32.ofNat k).toInt64 0 255 = decide (k ≤ 255) := fun k hk => by
    rw [Bool.eq_iff_iff, zin_iff, Int32.toInt_toInt64, zN_i hk, decide_eq_true_iff, show Int64.toInt 0 = 0 from rfl, show Int64.toInt 255 = 255 from rfl]; omega
  refine b132 ⟨fun h0 => ?_, fun h0 k hk ek => ⟨fun h1 => ?_, fun h1 => ⟨by omega, fun h2 => ?_, fun h2 => b89y ⟨by omega, fun h => absurd h (Nat.not_lt_zero _), fun _ => ⟨fun h => absurd h (by omega), fun _ => ⟨h2, b132_47 ?_⟩⟩⟩⟩⟩⟩
  · have c : zin a0.toInt64 0 255 = false := by
      rw [← Bool.not_eq_true, zin_iff, Int32.toInt_toInt64, show Int64.toInt 0 = 0 from rfl]
      rw [Int32.lt_iff_toInt_lt, Int32.toInt_zero] at h0
      omega
    have e : zt_type X a0 = (.inr 2, X) := by unfold zt_type; rw [if_pos c]
    rw [e] at H
    exact H _ ⟨P, T, _, rfl, hC, rfl, j2, j3⟩
  · have e : zt_type X a0 = (.inr 2, X) := by unfold zt_type; rw [ek, ez k hk, if_pos (decide_eq_false (by omega))]
    rw [e] at H
    exact H _ ⟨P, T, _, rfl, hC, rfl, j2, j3⟩
  · have e : zt_type X a0 = (.inr 1, X) := by unfold zt_type; rw [ek, ez k hk, if_neg (by rw [decide_eq_true h1]; decide), if_pos (by omega)]
    rw [e] at H
    exact H _ ⟨P, T, _, rfl, hC, rfl, j2, j3⟩
  · have e : zt_type X a0 = (.inl (Int32.ofNat (X.2.1 + 1)), (va_up X.1 X.2.1 a0, X.2.1 + 1, X.2.2)) := by
      have : zin a0.toInt64 0 255 = true := by rw [ek, ez k hk]; exact decide_eq_true h1
      unfold zt_type; rw [if_neg (by rw [this]; decide), if_neg (by omega)]
    rw [e] at H
    rw [← ek]
    refine H _ ⟨P, T, _, rfl, hC, rfl, fun k hk => ?_, j3⟩
    show va_up yc X.2.1 a0 k = va_up X.1 X.2.1 a0 k
    by_cases hkl : k = X.2.1
    · subst hkl; rw [va_up_self, va_up_self]
    · rw [va_up_ne _ _ hkl, va_up_ne _ _ hkl]; exact j2 k (by have : k < X.2.1 + 1 := hk; omega)
theorem k_clear {w : Nat → Int64} {p : Nat × Nat} {Q : zR → zH → Prop} {S : zSs} {X : zXt} {K : zKt} {I : zIt} {A : zAt} (h : zCA S X K) (H : ∀ K', zCA S (X.1, 0, X.2.2) K' → Q (.inl (some (.int (Int32.ofNat X.2.1)))) (zh K' I A w)) : zT zm_93 [.ref 0] p (zh K I A w) Q := by
  obtain ⟨P, T, ⟨⟨yc, yl⟩, ⟨uc, ul⟩, ⟨dc, dp, df, dw, dx⟩⟩, rfl, hC, j1, j2, j3⟩ := h
  have j1 : yl = X.2.1 := j1
  rw [j1]
  exact b93 (H _ ⟨P, T, _, rfl, hC, rfl, fun k hk => absurd hk (Nat.not_lt_zero k), j3⟩)
theorem k_fault {w : Nat → Int64} {p : Nat × Nat} {Q : zR → zH → Prop} {S : zSs} {X : zXt} {K : zKt} {I : zIt} {A : zAt} {a0 : Int32} (hX : zXw X) (h : zCA S X K) (H : ∀ K', zCA S X K' → Q (zRo (zt_fault X a0)) (zh K' I A w)) : zT zm_133 [.ref 0, .int a0] p (zh K I A w) Q := by
  obtain ⟨P, T, ⟨⟨yc, yl⟩, ⟨uc, ul⟩, ⟨dc, dp, df, dw, dx⟩⟩, rfl, hC, j1, j2, j3⟩ := h
  have j1 : yl = X.2.1 := j1
  subst j1
  refine b133 ⟨fun c k hk ek => ?_, fun c => ?_⟩
  · have e : zt_fault X a0 = match zpa (zch X.1 X.2.1) X.2.1 k with
      | .inl _ => .inl (-1)
      | .inr f => .inl (Int32.ofNat f) := by unfold zt_fault; rw [if_neg (by rw [c]; decide), ek, znn_o (zrg_lt hk)]; rfl
    refine s49 (zch_L hX.1) (zch_e rfl j2) hX.1 hk (fun h wd E ep P' T' dc' dp' dw' dx' f1 f2 => b133_18 ?_) (fun f ep P' dc' dp' dw' dx' => b133_18 ?_)
    · rw [ep] at e
      rw [e] at H
      obtain ⟨hsh, hE⟩ := (zpa_ok (zch_L hX.1) hk).1 h wd E ep
      exact H _ ⟨P', T', _, rfl, zCS_w hC f1 (by omega) (zCX_b hsh (zwf_0 hE) (f2 zg0)), rfl, j2, j3⟩
    · rw [ep] at e
      rw [e] at H
      exact H _ ⟨P', T, _, rfl, hC, rfl, j2, j3⟩
  · have e : zt_fault X a0 = .inr 2 := by unfold zt_fault; rw [if_pos c]
    rw [e] at H
    exact H _ ⟨P, T, _, rfl, hC, rfl, j2, j3⟩
theorem k_parse {w : Nat → Int64} {p : Nat × Nat} {Q : zR → zH → Prop} {S : zSs} {X : zXt} {K : zKt} {I : zIt} {A : zAt} {a0 a1 : Int32} (hX : zXw X) (h : zCA S X K) (H : ∀ K', zCA (zt_parse S X a0 a1).2.1 (zt_parse S X a0 a1).2.2 K' → Q (zRo (zt_parse S X a0 a1).1) (zh K' I A w)) : zT zm_134 [.ref 0, .int a0, .int a1] p (zh K I A w) Q := by
  obtain ⟨P, T, ⟨⟨yc, yl⟩, ⟨uc, ul⟩, ⟨dc, dp, df, dw, dx⟩⟩, rfl, hC, j1, j2, j3⟩ := h
  have j1 : yl = X.2.1 := j1
  subst j1
  refine b134 ⟨fun c0 k hk ek => ⟨fun c1 r hr er => ?_, fun c1 => ?_⟩, fun c0 => ?_⟩
  · have e : zt_parse S X a0 a1 = match zpa (zch X.1 X.2.1) X.2.1 r with
      | .inr _ => (.inr 1, S, X)
      | .inl q => (.inl (Int32.ofNat q.1), zup S k (r, q.1, q.2.1, q.2.2, (0, q.2.2, zg0)), (X.1, 0, X.2.2)) := by unfold zt_parse; rw [if_neg (by rw [c0]; decide), if_neg (by rw [c1]; decide), er, ek, znn_o (zrg_lt hr), znn_o (k := k) (by omega)]; rfl
    refine s49 (zch_L hX.1) (zch_e rfl j2) hX.1 hr (fun h wd E ep P' T' dc' dp' dw' dx' f1 f2 => b134_26 (by omega) ⟨fun h => absurd rfl h, fun _ => ?_⟩) (fun f ep P' dc' dp' dw' dx' => b134_26 (by omega) ⟨fun _ => ?_, fun h => ?_⟩)
    · rw [ep] at e
      rw [e] at H
      obtain ⟨hsh, hE⟩ := (zpa_ok (zch_L hX.1) hr).1 h wd E ep
      have g := f2 zg0
      have hC1 := zCS_w hC f1 (by omega) (zCX_b hsh (zwf_0 hE) g)
      refine s36 (j := 3) (by omega) (by omega) (by omega) g.1 g.2.2.1 (fun T2 q1 q2 => b134_46 (by omega) ?_)
      rw [(q2 zg0).1.2.1]
      exact H _ ⟨P', T2, _, rfl, zCS_up hC1 q1 (q2 zg0) ⟨hsh, zwf_0 hE⟩, rfl, fun k hk => absurd hk (Nat.not_lt_zero k), j3⟩
    · rw [ep] at e
      rw [e] at H
      exact H _ ⟨P', T, _, rfl, hC, rfl, j2, j3⟩
    · have := (zpa_ok (zch_L hX.1) hr).2 f ep
      exact absurd h (zob_n (by omega))
  · have e : zt_parse S X a0 a1 = (.inr 2, S, X) := by unfold zt_parse; rw [if_neg (by rw [c0]; decide), if_pos c1]
    rw [e] at H
    exact H _ ⟨P, T, _, rfl, hC, rfl, j2, j3⟩
  · have e : zt_parse S X a0 a1 = (.inr 0, S, X) := by unfold zt_parse; rw [if_pos c0]
    rw [e] at H
    exact H _ ⟨P, T, _, rfl, hC, rfl, j2, j3⟩
theorem k_write {w : Nat → Int64} {p : Nat × Nat} {Q : zR → zH → Prop} {S : zSs} {X : zXt} {K : zKt} {I : zIt} {A : zAt} {a0 : Int32} (hw : zSw S) (h : zCA S X K) (H : ∀ K', zCA S (zt_write S X a0).2 K' → Q (zRo (zt_write S X a0).1) (zh K' I A w)) : zT zm_135 [.ref 0, .int a0] p (zh K I A w) Q := by
  obtain ⟨P, T, ⟨⟨yc, yl⟩, ⟨uc, ul⟩, ⟨dc, dp, df, dw, dx⟩⟩, rfl, hC, j1, j2, j3⟩ := h
  refine b135 ⟨hC.2, fun c k hk ek => ?_, fun c0 => ?_, fun c => ?_⟩
  · obtain ⟨M, e⟩ := zfil_k hC hk ek c.2
    have ex : zt_write S X a0 = (.inl (Int32.ofNat (zwX M.1 M.2.1 M.2.2.1 M.2.2.2.2.2.1).length), (X.1, X.2.1, zwX M.1 M.2.1 M.2.2.1 M.2.2.2.2.2.1)) := by unfold zt_write; rw [if_neg (by rw [c.1]; decide), ek, znn_o (by omega), e]
    rw [ex] at H
    have hM := hw k M hk e
    have hx := zCS_x hC hk e
    have hXb := zCX_b hM.1 hM.2 hx
    have h4 := hM.1.2.2.1
    have h5 := hM.1.2.2.2.2
    have h6 := hM.1.2.2.2.1
    have hE := hM.2.2.1.1
    have hat : ∀ i c, i < 4 → c < 4 → zxat (T k) (Int32.ofNat i) (Int32.ofNat c) = zen (M.2.2.2.2.2.1 i c) := fun i c hi hc => zxat_e hXb hx.1 hx.2.2.1 hM.2.2.1 (by omega) (by omega)
    generalize M.2.2.2.2.2.1 = E at *
    have l16 : ∀ (y i n : Nat) (P : zPt) (u : Nat → Int32), i + y = M.2.1 → zWL u n (zwM M.1 M.2.2.1 E i) → zW zm_135 16 [some (.ref 0), none, some (.ref (21 + 8 * k)), some (.int (Int32.ofNat i)), none] [] p (zh (P, T, (yc, yl), (u, n), (dc, dp, df, dw, dx)) I A w) Q := by
      intro y
      induction y with
      | zero =>
        intro i n P u hi hW
        have : i = M.2.1 := by omega
        subst this
        have lx := zwX_len hM.1 hE
        have hl := hW.1
        have hx2 : (zwX M.1 M.2.1 M.2.2.1 E).length = n + 1 := by unfold zwX; rw [List.length_append, hl]; rfl
        refine b135_16 (by omega) ?_
        rw [hx.1.2.1]
        refine ⟨by omega, by omega, fun _ => s89 (by omega) (b135_107 ?_), fun h => (by omega)⟩
        rw [hx2] at H
        exact H _ ⟨P, T, _, rfl, hC, j1, j2, zWL_s hW⟩
      | succ y ih =>
        intro i n P u hi hW
        have l45 : ∀ (z c n : Nat) (P : zPt) (u : Nat → Int32), c + z = M.2.2.1 → zWL u n (zwM M.1 M.2.2.1 E i ++ ((if i = 0 then [91] else [59]) ++ zwR M.1 (E i) c)) → zW zm_135 45 [some (.ref 0), none, some (.ref (21 + 8 * k)), some (.int (Int32.ofNat i)), some (.int (Int32.ofNat c))] [] p (zh (P, T, (yc, yl), (u, n), (dc, dp, df, dw, dx)) I A w) Q := by
          intro z
          induction z with
          | zero =>
            intro c n P u hc hW'
            have : c = M.2.2.1 := by omega
            subst this
            refine b135_45 (by omega) ?_
            rw [hx.1.2.2]
            exact ⟨by omega, by omega, fun _ => ih (i + 1) n P u (by omega) hW', fun h => (by omega)⟩
          | succ z ih2 =>
            intro c n P u hc hW'
            have hbd := zwM_b hM.1 hE (show i < M.2.1 by omega) (show c ≤ M.2.2.1 by omega)
            have hl := hW'.1
            have hz : 1 * 35 ≤ (M.2.2.1 - c) * 35 := Nat.mul_le_mul_right 35 (by omega)
            refine b135_45 (by omega) ?_
            rw [hx.1.2.2, hx.1.1, hat i c (by omega) (by omega)]
            refine ⟨by omega, by omega, fun h => (by omega), fun _ => ⟨fun hc0 => ⟨hXb, ?_⟩, fun hc0 => ?_⟩⟩
            · have hc0 : c = 0 := by omega
              rw [if_pos hc0] at hbd
              refine c_write hM.1.1 (hE i c) hW' (by omega) (fun P' n' u' h => b135_86 (ih2 (c + 1) n' P' u' (by omega) ?_))
              rw [zwR, if_pos hc0]
              simp only [List.append_assoc, List.nil_append] at h ⊢
              exact h
            · rw [if_neg (show ¬ c = 0 by omega)] at hbd
              refine s89 (by omega) (b135_68 (by omega) ⟨hXb, ?_⟩)
              rw [hx.1.1, hat i c (by omega) (by omega)]
              refine c_write hM.1.1 (hE i c) (zWL_s hW') (by omega) (fun P' n' u' h => b135_86 (ih2 (c + 1) n' P' u' (by omega) ?_))
              rw [zwR, if_neg (show ¬ c = 0 by omega)]
              simp only [List.append_assoc] at h ⊢
              exact h
        have a1 := zwM_len hM.1.1 h6 hE i
        have h7 : i * (M.2.2.1 * 35) ≤ 3 * (4 * 35) := Nat.mul_le_mul (by omega) (Nat.mul_le_mul_right 35 h5)
        have hl := hW.1
        refine b135_16 (by omega) ?_
        rw [hx.1.2.1]
        refine ⟨by omega, by omega, fun h => (by omega), fun _ => ⟨fun hi0 => s89 (by omega) (b135_42 ?_), fun hi0 => s89 (by omega) (b135_42 ?_)⟩⟩
        · refine l45 M.2.2.1 0 (n + 1) P _ (by omega) ?_
          rw [if_neg hi0]
          have := zWL_s (c := 59) hW
          rw [show zwR M.1 (E i) 0 = [] from rfl, List.append_nil]
          exact this
        · refine l45 M.2.2.1 0 (n + 1) P _ (by omega) ?_
          rw [if_pos hi0]
          have := zWL_s (c := 91) hW
          rw [show zwR M.1 (E i) 0 = [] from rfl, List.append_nil]
          exact this
    exact l16 M.2.1 0 0 P uc (by omega) ⟨rfl, fun k hk => absurd hk (Nat.not_lt_zero k)⟩
  · have ex : zt_write S X a0 = (.inr 0, X) := by unfold zt_write; rw [if_pos c0]
    rw [ex] at H
    exact H _ ⟨P, T, _, rfl, hC, j1, j2, j3⟩
  · obtain ⟨k, hk, ek, e⟩ := zfil_n hC hw c.1 c.2
    have ex : zt_write S X a0 = (.inr 1, X) := by unfold zt_write; rw [if_neg (by rw [c.1]; decide), ek, znn_o (by omega), e]
    rw [ex] at H
    exact H _ ⟨P, T, _, rfl, hC, j1, j2, j3⟩
theorem k_written {w : Nat → Int64} {p : Nat × Nat} {Q : zR → zH → Prop} {S : zSs} {X : zXt} {K : zKt} {I : zIt} {A : zAt} {a0 : Int32} (hX : zXw X) (h : zCA S X K) (H : ∀ K', zCA S X K' → Q (zRo (zt_written X a0)) (zh K' I A w)) : zT zm_136 [.ref 0, .int a0] p (zh K I A w) Q := by
  obtain ⟨P, T, ⟨⟨yc, yl⟩, ⟨uc, ul⟩, ⟨dc, dp, df, dw, dx⟩⟩, rfl, hC, j1, j2, j3⟩ := h
  have j3 : zWL uc ul X.2.2 := j3
  have hl := hX.2
  have hu := j3.1
  have no : ¬ zlin X.2.2.length a0 = true → Q (.inr 0) (zh (P, T, (yc, yl), (uc, ul), (dc, dp, df, dw, dx)) I A w) := fun hn => by
    have e : zt_written X a0 = .inr 0 := by unfold zt_written; rw [if_neg hn]
    rw [e] at H
    exact H _ ⟨P, T, _, rfl, hC, j1, j2, j3⟩
  refine b136 ⟨fun h0 => no (fun c => ?_), fun h0 k hk ek => ⟨by omega, fun hlt => ⟨by omega, ?_⟩, fun hge => no (fun c => ?_)⟩⟩
  · obtain ⟨x, hx, exx⟩ := zlin_n c
    rw [exx] at h0
    exact absurd h0 (zN_ge0 (by omega))
  · have c : zlin X.2.2.length a0 = true := by
      unfold zlin
      rw [ek, zN_i hk, decide_eq_true_iff]; omega
    have e : zt_written X a0 = .inl (uc k) := by
      unfold zt_written
      rw [if_pos c, ek, znn_o hk, j3.2 k (by omega)]; rfl
    have h0' : ¬ Int32.ofNat k < 0 := zN_ge0 hk
    have e2 : zcda uc ul (Int32.ofNat k) 561 = uc k := by
      have e1 := zcN_lt (x := Int32.ofNat k) (y := Int32.ofNat ul) rfl rfl hk (by omega)
      have e2 := zcN_lt (x := Int32.ofNat k) (y := Int32.ofNat 561) rfl rfl hk (by decide)
      simp only [zcmp] at e1 e2
      simp only [zcda, e1, e2, decide_eq_true (show k < ul by omega), decide_eq_true (show k < 561 by omega), decide_eq_true (z0le h0'), Bool.and_true, cond_true, zN_cl hk (Nat.le_refl _)]
    rw [e] at H
    rw [e2]
    exact H _ ⟨P, T, _, rfl, hC, j1, j2, j3⟩
  · obtain ⟨x, hx, exx⟩ := zlin_n c
    have : k = x := zN_inj hk (by omega) (ek.symm.trans exx)
    omega
