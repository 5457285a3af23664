/-! TEXTS: the class reads -/
theorem zcda_c {ch : Nat → Int32} {yc : Nat → Int32} {yl p : Nat} (h : ∀ p, zch yc yl p = ch p) (hl : yl ≤ 120) (hp : p < 2147483648) : zcda yc yl (Int32.ofNat p) 120 = ch p := by
  rw [← h p]
  unfold zcda zch
  have l : ∀ {n : Nat}, n < 2147483648 → decide (Int32.ofNat p < Int32.ofNat n) = decide (p < n) := fun {n} hn => by
    rw [decide_eq_decide, Int32.lt_iff_toInt_lt, zN_i hp, zN_i hn]; omega
  have z : decide (0 ≤ Int32.ofNat p) = true := decide_eq_true (by rw [Int32.le_iff_toInt_le, zN_i hp, Int32.toInt_zero]; omega)
  rw [z, l (show yl < 2147483648 by omega), l (show 120 < 2147483648 by omega), Bool.true_and, zN_cl hp (Nat.le_refl _)]
  by_cases hpl : p < yl
  · rw [decide_eq_true hpl, decide_eq_true (show p < 120 by omega), if_pos hpl]; rfl
  · rw [decide_eq_false hpl, if_neg hpl]; rfl
theorem zdf0 {x y : Int32} : (bif decide ((-1 : Int32) = -1) then x else y) = x := by rw [decide_eq_true rfl, cond_true]
theorem zdf1 {x : Int32} {f : Nat} (hf : f < 2147483648) : (bif decide (Int32.ofNat f = -1) then x else Int32.ofNat f) = Int32.ofNat f := by rw [decide_eq_false (zob_n hf), cond_false]
theorem zdf2 {f : Nat} (hf : f < 2147483648) : (!decide (Int32.ofNat f = -1)) = true := by rw [decide_eq_false (zob_n hf)]; rfl
theorem zdf3 : (!decide ((-1 : Int32) = -1)) = false := by rw [decide_eq_true rfl]; rfl
/-- take -/
theorem s51 {P : zPt} {T : Nat → zX} {yc uc : Nat → Int32} {yl ul dw : Nat} {df : Int32} {dx : Bool} {dc : Nat → Int64} {I : zIt} {A : zAt} {w : Nat → Int64} {p : Nat × Nat} {Q : zR → zH → Prop} {ch : Nat → Int32} {p0 : Nat} {c : Int32} (hc : ∀ p, zch yc yl p = ch p) (hl : yl ≤ 120) (hp : p0 < 2147483648) (H1 : ch p0 = c → Q (.inl (some (.int 1))) (zh (P, T, (yc, yl), (uc, ul), (dc, (p0 + 1), df, dw, dx)) I A w)) (H0 : ch p0 ≠ c → Q (.inl (some (.int 0))) (zh (P, T, (yc, yl), (uc, ul), (dc, p0, df, dw, dx)) I A w)) : zT zm_51 [.ref 73, .int c] p (zh (P, T, (yc, yl), (uc, ul), (dc, p0, df, dw, dx)) I A w) Q := by
  refine b51 ?_
  rw [zcda_c hc hl hp]
  exact ⟨by omega, H1, H0⟩
theorem s51a {P : zPt} {T : Nat → zX} {yc uc : Nat → Int32} {yl ul dw : Nat} {df : Int32} {dx : Bool} {dc : Nat → Int64} {I : zIt} {A : zAt} {w : Nat → Int64} {p : Nat × Nat} {Q : zR → zH → Prop} {p0 : Nat} {c : Int32} (hl : yl ≤ 120) (H1 : ∀ dp', Q (.inl (some (.int 1))) (zh (P, T, (yc, yl), (uc, ul), (dc, dp', df, dw, dx)) I A w)) (H0 : ∀ dp', Q (.inl (some (.int 0))) (zh (P, T, (yc, yl), (uc, ul), (dc, dp', df, dw, dx)) I A w)) : zT zm_51 [.ref 73, .int c] p (zh (P, T, (yc, yl), (uc, ul), (dc, p0, df, dw, dx)) I A w) Q :=
  b51 ⟨by omega, fun _ => H1 _, fun _ => H0 _⟩
/-- expect -/
theorem s50 {P : zPt} {T : Nat → zX} {yc uc : Nat → Int32} {yl ul dw : Nat} {dx : Bool} {dc : Nat → Int64} {I : zIt} {A : zAt} {w : Nat → Int64} {p : Nat × Nat} {Q : zR → zH → Prop} {ch : Nat → Int32} {p0 : Nat} {c : Int32} (hc : ∀ p, zch yc yl p = ch p) (hl : yl ≤ 120) (hp : p0 < 2147483648) (H1 : ch p0 = c → Q (.inl none) (zh (P, T, (yc, yl), (uc, ul), (dc, (p0 + 1), (-1 : Int32), dw, dx)) I A w)) (H0 : ch p0 ≠ c → Q (.inl none) (zh (P, T, (yc, yl), (uc, ul), (dc, p0, (Int32.ofNat p0), dw, dx)) I A w)) : zT zm_50 [.ref 73, .int c] p (zh (P, T, (yc, yl), (uc, ul), (dc, p0, (-1 : Int32), dw, dx)) I A w) Q := by
  refine b50 (s51 hc hl hp (fun h => b50_5 (rv := true) ⟨fun _ => H1 h, fun h => (by cases h)⟩) (fun h => b50_5 (rv := false) ⟨fun h => (by cases h), fun _ => ?_⟩))
  rw [zdf0]
  exact H0 h
theorem s50f {P : zPt} {T : Nat → zX} {yc uc : Nat → Int32} {yl ul dw : Nat} {dx : Bool} {dc : Nat → Int64} {I : zIt} {A : zAt} {w : Nat → Int64} {p : Nat × Nat} {Q : zR → zH → Prop} {p0 f : Nat} {c : Int32} (hl : yl ≤ 120) (hf : f < 2147483648) (H : ∀ dp', Q (.inl none) (zh (P, T, (yc, yl), (uc, ul), (dc, dp', (Int32.ofNat f), dw, dx)) I A w)) : zT zm_50 [.ref 73, .int c] p (zh (P, T, (yc, yl), (uc, ul), (dc, p0, (Int32.ofNat f), dw, dx)) I A w) Q := by
  refine b50 (s51a hl (fun dp' => b50_5 (rv := true) ⟨fun _ => H dp', fun h => (by cases h)⟩) (fun dp' => b50_5 (rv := false) ⟨fun h => (by cases h), fun _ => ?_⟩))
  rw [zdf1 hf]
  exact H dp'
/-- isAtDigit -/
theorem s56 {P : zPt} {T : Nat → zX} {yc uc : Nat → Int32} {yl ul dw : Nat} {df : Int32} {dx : Bool} {dc : Nat → Int64} {I : zIt} {A : zAt} {w : Nat → Int64} {p : Nat × Nat} {Q : zR → zH → Prop} {ch : Nat → Int32} {p0 : Nat} (hc : ∀ p, zch yc yl p = ch p) (hl : yl ≤ 120) (hp : p0 < 2147483648) (H1 : ∀ d, zdg (ch p0) = some d → Q (.inl (some (.int 1))) (zh (P, T, (yc, yl), (uc, ul), (dc, p0, df, dw, dx)) I A w)) (H0 : zdg (ch p0) = none → Q (.inl (some (.int 0))) (zh (P, T, (yc, yl), (uc, ul), (dc, p0, df, dw, dx)) I A w)) : zT zm_56 [.ref 73] p (zh (P, T, (yc, yl), (uc, ul), (dc, p0, df, dw, dx)) I A w) Q := by
  refine b56 ?_
  rw [zcda_c hc hl hp, Int32.lt_iff_toInt_lt, Int32.lt_iff_toInt_lt, show Int32.toInt 48 = 48 from rfl, show Int32.toInt 57 = 57 from rfl]
  have no : ¬ (48 ≤ (ch p0).toInt ∧ (ch p0).toInt ≤ 57) → Q (.inl (some (.int 0))) (zh (P, T, (yc, yl), (uc, ul), (dc, p0, df, dw, dx)) I A w) := fun h => H0 (by unfold zdg; rw [if_neg h])
  exact ⟨by omega, fun h => no (by omega), fun h => ⟨fun h2 => no (by omega), fun h2 => H1 _ (by unfold zdg; rw [if_pos (by omega)])⟩⟩
theorem zdgt {c : Int32} {k : Nat} (hk : k ≤ 9) : (¬ c - 48 < 0 ∧ c - 48 ≤ Int32.ofNat k) ↔ ∃ d, zdg c = some d ∧ d ≤ k := by
  constructor
  · rintro ⟨h1, h2⟩
    obtain ⟨j, hj, ej⟩ := zNn0 (x := c - 48) (by rw [Int32.lt_iff_toInt_lt, Int32.toInt_zero] at h1; omega)
    rw [ej, zN_leI hj (by omega)] at h2
    have ec : c = Int32.ofNat (48 + j) := by
      rw [Int32.ofNat_add, ← ej, show Int32.ofNat 48 = (48 : Int32) from rfl, Int32.add_comm, Int32.sub_add_cancel]
    exact ⟨j, by rw [ec]; exact zdg_d (by omega), h2⟩
  · rintro ⟨d, hd, hdk⟩
    obtain ⟨h9, ec⟩ := zdg_some hd
    rw [ec, zdg_v, zN_leI (by omega) (by omega)]
    exact ⟨zN_ge0 (by omega), hdk⟩
/-- takeDigit -/
theorem s57 {P : zPt} {T : Nat → zX} {yc uc : Nat → Int32} {yl ul dw : Nat} {dx : Bool} {dc : Nat → Int64} {I : zIt} {A : zAt} {w : Nat → Int64} {p : Nat × Nat} {Q : zR → zH → Prop} {ch : Nat → Int32} {p0 k : Nat} (hc : ∀ p, zch yc yl p = ch p) (hl : yl ≤ 120) (hp : p0 < 2147483648) (hk : k ≤ 9) (H1 : ∀ d, zdg (ch p0) = some d → d ≤ k → Q (.inl (some (.int (Int32.ofNat d)))) (zh (P, T, (yc, yl), (uc, ul), (dc, (p0 + 1), (-1 : Int32), dw, dx)) I A w)) (H0 : (∀ d, zdg (ch p0) = some d → k < d) → Q (.inl (some (.int 0))) (zh (P, T, (yc, yl), (uc, ul), (dc, p0, (Int32.ofNat p0), dw, dx)) I A w)) : zT zm_57 [.ref 73, .int (Int32.ofNat k)] p (zh (P, T, (yc, yl), (uc, ul), (dc, p0, (-1 : Int32), dw, dx)) I A w) Q := by
  refine b57 ?_
  rw [zcda_c hc hl hp, zdf0]
  have no : ¬ (¬ ch p0 - 48 < 0 ∧ ch p0 - 48 ≤ Int32.ofNat k) → Q (.inl (some (.int 0))) (zh (P, T, (yc, yl), (uc, ul), (dc, p0, (Int32.ofNat p0), dw, dx)) I A w) := fun h => H0 (fun d hd => by
    apply Classical.byContradiction
    intro hn
    exact h ((zdgt hk).mpr ⟨d, hd, by omega⟩))
  refine ⟨by omega, fun h => no (fun g => g.1 h), fun h => ⟨fun h2 => ?_, fun h2 => no (fun g => h2 g.2)⟩⟩
  obtain ⟨d, hd, hdk⟩ := (zdgt hk).mp ⟨h, h2⟩
  have := H1 d hd hdk
  rw [(zdg_some hd).2, zdg_v]
  exact this
theorem s57f {P : zPt} {T : Nat → zX} {yc uc : Nat → Int32} {yl ul dw : Nat} {dx : Bool} {dc : Nat → Int64} {I : zIt} {A : zAt} {w : Nat → Int64} {p : Nat × Nat} {Q : zR → zH → Prop} {p0 f : Nat} {k : Int32} (hl : yl ≤ 120) (hf : f < 2147483648) (H : ∀ x dp', Q (.inl (some (.int x))) (zh (P, T, (yc, yl), (uc, ul), (dc, dp', (Int32.ofNat f), dw, dx)) I A w)) : zT zm_57 [.ref 73, .int k] p (zh (P, T, (yc, yl), (uc, ul), (dc, p0, (Int32.ofNat f), dw, dx)) I A w) Q := by
  refine b57 ?_
  rw [zdf1 hf]
  exact ⟨by omega, fun _ => H _ _, fun _ => ⟨fun _ => H _ _, fun _ => H _ _⟩⟩
/-- takeNumber -/
theorem s55 {P : zPt} {T : Nat → zX} {yc uc : Nat → Int32} {yl ul dw : Nat} {dx : Bool} {dc : Nat → Int64} {I : zIt} {A : zAt} {w : Nat → Int64} {p : Nat × Nat} {Q : zR → zH → Prop} {ch : Nat → Int32} {D b p0 : Nat} (hL : zLe ch) (hc : ∀ p, zch yc yl p = ch p) (hl : yl ≤ 120) (hD : D ≤ 10) (hb : b ≤ 1000000000) (hp : p0 ≤ 120)
    (H1 : ∀ q v, zpn ch D b p0 = .inl (q, v) → Q (.inl (some (.long (Int64.ofNat v)))) (zh (P, T, (yc, yl), (uc, ul), (dc, q, (-1 : Int32), dw, dx)) I A w)) (H2 : zpn ch D b p0 = .inr p0 → ∀ v dp', Q (.inl (some (.long v))) (zh (P, T, (yc, yl), (uc, ul), (dc, dp', (Int32.ofNat p0), dw, dx)) I A w)) :
    zT zm_55 [.ref 73, .int (Int32.ofNat D), .int (Int32.ofNat b)] p (zh (P, T, (yc, yl), (uc, ul), (dc, p0, (-1 : Int32), dw, dx)) I A w) Q := by
  obtain ⟨d1, d2, d3⟩ := zdc_121 hL p0
  have d3 := d3 hp
  have lp : ∀ (n k : Nat), k + n = zdc ch 121 p0 → k ≤ D + 1 → zW zm_55 11 [some (.ref 73), some (.int (Int32.ofNat D)), some (.int (Int32.ofNat b)), some (.int (Int32.ofNat p0)), some (.long (Int64.ofNat (zdgs ch p0 k))), none, some (.int (Int32.ofNat k))] [] p (zh (P, T, (yc, yl), (uc, ul), (dc, (p0 + k), (-1 : Int32), dw, dx)) I A w) Q := by
    intro n
    induction n with
    | zero =>
      intro k hk hkD
      have ek : k = zdc ch 121 p0 := by omega
      have v1 : zdgs ch p0 k < 100000000000 := Nat.lt_of_lt_of_le (zdgs_lt ch p0 _) (Nat.le_trans (Nat.pow_le_pow_right (by omega) (show k ≤ 11 by omega)) (by decide))
      have hsub : Int32.ofNat (p0 + k) - Int32.ofNat p0 = Int32.ofNat k := (zN_sb rfl rfl (by omega)).trans (by rw [Nat.add_sub_cancel_left])
      have hlt : Int32.ofNat D < Int32.ofNat k ↔ D < k := by rw [Int32.lt_iff_toInt_lt, zN_i (by omega), zN_i (by omega)]; omega
      have hle : Int64.ofNat (zdgs ch p0 k) ≤ (Int32.ofNat b).toInt64 ↔ zdgs ch p0 k ≤ b := by rw [zNL (by omega), Int64.le_iff_toInt_le, zLN (by omega), zLN (by omega)]; omega
      have bad : (zdc ch 121 p0 = 0 ∨ D < zdc ch 121 p0 ∨ b < zdgs ch p0 (zdc ch 121 p0)) → zpn ch D b p0 = .inr p0 := fun h => by unfold zpn; rw [if_pos h]
      refine b55_11 ?_
      rw [hlt]
      refine ⟨fun hDk => ?_, fun hDk => ?_⟩
      · rw [hsub, hlt, zdf0]
        exact ⟨by omega, by omega, fun h => H2 (bad (by omega)) _ _, fun _ => ⟨fun _ => H2 (bad (by omega)) _ _, fun h => absurd hDk h⟩⟩
      · refine s56 hc hl (by omega) (fun d hd => ?_) (fun _ => b55_21 (rv := false) ?_)
        · rw [ek, d2] at hd; cases hd
        · rw [hsub, hlt, zdf0, hle]
          refine ⟨fun _ => ⟨by omega, by omega, fun h => H2 (bad (by omega)) _ _, fun h => ⟨fun h2 => absurd h2 hDk, fun _ => ⟨fun hv => H1 _ _ ?_, fun hv => H2 (bad ?_) _ _⟩⟩⟩, fun h => (by cases h)⟩
          · unfold zpn; rw [← ek, if_neg (by omega)]
          · rw [← ek]; omega
    | succ n ih =>
      intro k hk hkD
      have hs := d1 k (by omega)
      obtain ⟨d, ed⟩ := Option.isSome_iff_exists.mp hs
      have h9 := (zdg_some ed).1
      have hlt : Int32.ofNat D < Int32.ofNat k ↔ D < k := by rw [Int32.lt_iff_toInt_lt, zN_i (by omega), zN_i (by omega)]; omega
      have hsub : Int32.ofNat (p0 + k) - Int32.ofNat p0 = Int32.ofNat k := (zN_sb rfl rfl (by omega)).trans (by rw [Nat.add_sub_cancel_left])
      refine b55_11 ?_
      rw [hlt]
      refine ⟨fun hDk => ?_, fun hDk => ?_⟩
      · rw [hsub, hlt, zdf0]
        have bad : zpn ch D b p0 = .inr p0 := by unfold zpn; rw [if_pos (Or.inr (Or.inl (by omega)))]
        exact ⟨by omega, by omega, fun h => H2 bad _ _, fun _ => ⟨fun _ => H2 bad _ _, fun h => absurd hDk h⟩⟩
      · refine s56 hc hl (by omega) (fun d' hd' => b55_21 (rv := true) ⟨fun h => (by cases h), fun _ => ?_⟩) (fun hd' => ?_)
        · refine s57 (k := 9) hc hl (by omega) (by omega) (fun d2 hd2 _ => b55_36 ?_) (fun h => ?_)
          · rw [ed] at hd2
            cases hd2
            have := ih (k + 1) (by omega) (by omega)
            rw [zdgs, ed, Option.getD_some, Int64.ofNat_add, Nat.mul_comm, Int64.ofNat_mul] at this
            rw [zNL (by omega)]
            exact this
          · have := h d ed; omega
        · rw [ed] at hd'; cases hd'
  exact b55 (lp (zdc ch 121 p0) 0 (by omega) (by omega))
theorem zng32 (v : Nat) : (-(Int64.ofNat v)).toInt32 = -(Int64.ofNat v).toInt32 := Int64.toInt32_neg _
theorem zsg_e {b : Bool} {v : Nat} (hv : v < 2147483648) : (bif b then -(Int64.ofNat v) else Int64.ofNat v).toInt32 = zsg b (Int32.ofNat v) := by
  cases b with
  | false => rw [cond_false, zLN32 hv]; rfl
  | true => rw [cond_true, zng32, zLN32 hv]; rfl
/-- Integers.readFrom -/
theorem c24 {P : zPt} {T : Nat → zX} {yc uc : Nat → Int32} {yl ul dw : Nat} {dx : Bool} {dc : Nat → Int64} {I : zIt} {A : zAt} {w : Nat → Int64} {p : Nat × Nat} {Q : zR → zH → Prop} {ch : Nat → Int32} {p0 : Nat} (hL : zLe ch) (hc : ∀ p, zch yc yl p = ch p) (hl : yl ≤ 120) (hp : p0 ≤ 120) (H1 : ∀ q e, zpi ch p0 = .inl (q, e) → Q (.inl (some (.long (zen e)))) (zh (P, T, (yc, yl), (uc, ul), (dc, q, (-1 : Int32), dw, dx)) I A w)) (H2 : ∀ f, zpi ch p0 = .inr f → ∀ v dp', Q (.inl (some (.long v))) (zh (P, T, (yc, yl), (uc, ul), (dc, dp', (Int32.ofNat f), dw, dx)) I A w)) : zT zm_24 [.ref 1, .ref 73] p (zh (P, T, (yc, yl), (uc, ul), (dc, p0, (-1 : Int32), dw, dx)) I A w) Q := by
  have hpm := zpmi_le hL hp
  have go : ∀ b, b = decide (ch p0 = 45) → zW zm_24 6 [none, some (.ref 73), none, none, none] [.int (zbi b)] p (zh (P, T, (yc, yl), (uc, ul), (dc, (zpmi ch p0), (-1 : Int32), dw, dx)) I A w) Q := by
    intro b hb
    refine b24_6 (s55 (D := 10) (b := 1000000000) hL hc hl (by omega) (by omega) hpm (fun q v e => b24_15 ?_) (fun e v dp' => b24_15 ?_))
    · have hv := (zpn_ok hL hpm e).2
      have h := H1 q (zsg b (Int32.ofNat v), 0) (by unfold zpi; rw [e, hb])
      rw [← zsg_e (by omega)] at h
      refine ⟨fun hx => ?_, fun hx => ?_⟩
      · rw [hx, cond_false] at h
        rw [ze64_n]; exact h
      · rw [hx, cond_true] at h
        rw [ze64_n]; exact h
    · have h := H2 (zpmi ch p0) (by unfold zpi; rw [e])
      exact ⟨fun _ => h _ _, fun _ => h _ _⟩
  refine b24 (s51 hc hl (by omega) (fun h => ?_) (fun h => ?_))
  · have e : zpmi ch p0 = p0 + 1 := by unfold zpmi; rw [decide_eq_true h]; rfl
    have := go true (decide_eq_true h).symm
    rw [e] at this; exact this
  · have e : zpmi ch p0 = p0 := by unfold zpmi; rw [decide_eq_false h]; rfl
    have := go false (decide_eq_false h).symm
    rw [e] at this; exact this
/-- Gaussians.readFrom -/
theorem c9 {P : zPt} {T : Nat → zX} {yc uc : Nat → Int32} {yl ul dw : Nat} {dx : Bool} {dc : Nat → Int64} {I : zIt} {A : zAt} {w : Nat → Int64} {p : Nat × Nat} {Q : zR → zH → Prop} {ch : Nat → Int32} {p0 : Nat} (hL : zLe ch) (hc : ∀ p, zch yc yl p = ch p) (hl : yl ≤ 120) (hp : p0 ≤ 120) (H1 : ∀ q e, zpg ch p0 = .inl (q, e) → Q (.inl (some (.long (zen e)))) (zh (P, T, (yc, yl), (uc, ul), (dc, q, (-1 : Int32), dw, dx)) I A w)) (H2 : ∀ f, zpg ch p0 = .inr f → ∀ v dp', Q (.inl (some (.long v))) (zh (P, T, (yc, yl), (uc, ul), (dc, dp', (Int32.ofNat f), dw, dx)) I A w)) : zT zm_9 [.ref 3, .ref 73] p (zh (P, T, (yc, yl), (uc, ul), (dc, p0, (-1 : Int32), dw, dx)) I A w) Q := by
  have hpm := zpmi_le hL hp
  -- behind the sign of the second part
  have g111 : ∀ (x5 : Int64) (x7 : Bool) (q : Nat), q < 120 → (∀ u v, zpg2 ch q = .inl (u, v) → ch u = 105 → Q (.inl (some (.long (ze64 x5 (bif !x7 then -(Int64.ofNat v) else Int64.ofNat v))))) (zh (P, T, (yc, yl), (uc, ul), (dc, (u + 1), (-1 : Int32), dw, dx)) I A w)) → (∀ u v, zpg2 ch q = .inl (u, v) → ch u ≠ 105 → ∀ x dp', Q (.inl (some (.long x))) (zh (P, T, (yc, yl), (uc, ul), (dc, dp', (Int32.ofNat u), dw, dx)) I A w)) → (∀ f, zpg2 ch q = .inr f → ∀ x dp', Q (.inl (some (.long x))) (zh (P, T, (yc, yl), (uc, ul), (dc, dp', (Int32.ofNat f), dw, dx)) I A w)) →
      zT zm_56 [.ref 73] p (zh (P, T, (yc, yl), (uc, ul), (dc, (q + 1), (-1 : Int32), dw, dx)) I A w) (zK zm_9 111 [none, some (.ref 73), none, none, none, some (.long x5), none, some (.int (zbi x7)), none, none] [] p Q) := by
    intro x5 x7 q hq K1 K2 K3
    refine s56 hc hl (by omega) (fun d hd => b9_111 (rv := true) ⟨fun h => (by cases h), fun _ => ?_⟩) (fun hd => b9_111 (rv := false) ⟨fun _ => ?_, fun h => (by cases h)⟩)
    · have e2 : zpg2 ch q = zpn ch 5 30000 (q + 1) := by unfold zpg2; rw [if_pos (by rw [hd]; rfl)]
      refine s55 (D := 5) (b := 30000) hL hc hl (by omega) (by omega) (by omega) (fun u v e => b9_122 ?_) (fun e v dp' => b9_122 ?_)
      · have hu := (zpn_ok hL (by omega) e).1
        refine s50 hc hl (by omega) (fun h => b9_134 ⟨fun hx => ?_, fun hx => ?_⟩) (fun h => b9_134 ⟨fun hx => K2 u v (e2.trans e) h _ _, fun hx => K2 u v (e2.trans e) h _ _⟩)
        · have := K1 u v (e2.trans e) h
          rw [hx] at this; exact this
        · have := K1 u v (e2.trans e) h
          rw [hx] at this; exact this
      · have hk := K3 (q + 1) (e2.trans e)
        exact s50f hl (by omega) (fun dp' => b9_134 ⟨fun hx => hk _ _, fun hx => hk _ _⟩)
    · have e2 : zpg2 ch q = .inl (q + 1, 1) := by unfold zpg2; rw [if_neg (by rw [hd]; decide)]
      refine s50 hc hl (by omega) (fun h => b9_134 ⟨fun hx => ?_, fun hx => ?_⟩) (fun h => b9_134 ⟨fun hx => K2 _ _ e2 h _ _, fun hx => K2 _ _ e2 h _ _⟩)
      · have := K1 _ _ e2 h
        rw [hx] at this; exact this
      · have := K1 _ _ e2 h
        rw [hx] at this; exact this
  have go : ∀ b, b = decide (ch p0 = 45) → ch (zpmi ch p0) ≠ 105 → zW zm_9 13 [none, some (.ref 73), some (.int (zbi b)), none, none, none, none, none, none, none] [.int (zbi false)] p (zh (P, T, (yc, yl), (uc, ul), (dc, (zpmi ch p0), (-1 : Int32), dw, dx)) I A w) Q := by
    intro b hb hi
    refine b9_13 ⟨fun _ => ?_, fun h => (by cases h)⟩
    have g40 : ∀ (q v : Nat), zpn ch 5 30000 (zpmi ch p0) = .inl (q, v) → zT zm_51 [.ref 73, .int (105 : Int32)] p (zh (P, T, (yc, yl), (uc, ul), (dc, q, (-1 : Int32), dw, dx)) I A w) (zK zm_9 68 [none, some (.ref 73), none, none, none, some (.long (bif b then -(Int64.ofNat v) else Int64.ofNat v)), none, none, none, none] [] p Q) := by
      intro q v e
      obtain ⟨hq, hv⟩ := zpn_ok hL hpm e
      have hq : q ≤ 120 := hq
      have hv : v ≤ 30000 := hv
      have eg : zpg ch p0 = if ch q = 105 then .inl (q + 1, (0, zsg b (Int32.ofNat v))) else if ch q = 43 ∨ ch q = 45 then (match zpg2 ch q with
          | .inr f => .inr f
          | .inl u => if ch u.1 = 105 then .inl (u.1 + 1, (zsg b (Int32.ofNat v), zsg (decide (ch q = 45)) (Int32.ofNat u.2))) else .inr u.1)
        else .inl (q, (zsg b (Int32.ofNat v), 0)) := by
        unfold zpg
        rw [if_neg hi, e, hb]
        rfl
      have es := zsg_e (b := b) (v := v) (by omega)
      have g2 : ∀ x7, (!x7) = decide (ch q = 45) → (ch q = 43 ∨ ch q = 45) → q < 120 → zT zm_56 [.ref 73] p (zh (P, T, (yc, yl), (uc, ul), (dc, (q + 1), (-1 : Int32), dw, dx)) I A w) (zK zm_9 111 [none, some (.ref 73), none, none, none, some (.long (bif b then -(Int64.ofNat v) else Int64.ofNat v)), none, some (.int (zbi x7)), none, none] [] p Q) := by
        intro x7 hx7 hq4 hq2
        rw [if_neg (by rcases hq4 with h | h <;> (rw [h]; decide)), if_pos hq4] at eg
        refine g111 _ x7 q hq2 (fun u v2 e2 h2 => ?_) (fun u v2 e2 h2 => ?_) (fun f e2 => ?_)
        · rw [e2] at eg
          have hv2 := ((zpg2_ok hL hq2).1 u v2 e2).2
          have := H1 (u + 1) (zsg b (Int32.ofNat v), zsg (decide (ch q = 45)) (Int32.ofNat v2)) (eg.trans (if_pos h2))
          rw [ze64_n, es, hx7, zsg_e (by omega)]
          exact this
        · rw [e2] at eg
          exact H2 u (eg.trans (if_neg h2))
        · rw [e2] at eg
          exact H2 f eg
      refine s51 hc hl (by omega) (fun h => b9_68 (rv := true) ⟨fun h => (by cases h), fun _ => ?_⟩) (fun h => b9_68 (rv := false) ⟨fun _ => ?_, fun h => (by cases h)⟩)
      · rw [if_pos h] at eg
        have := H1 (q + 1) (0, zsg b (Int32.ofNat v)) eg
        rw [ze64_n, es]; exact this
      · rw [if_neg h] at eg
        refine s51 hc hl (by omega) (fun h43 => b9_84 (rv := true) ⟨fun _ => ?_, fun h => (by cases h)⟩) (fun n43 => b9_84 (rv := false) ⟨fun h => (by cases h), fun _ => ?_⟩)
        · exact g2 true (by rw [h43]; rfl) (Or.inl h43) (zLe_c hL h43 (by decide))
        · refine s51 hc hl (by omega) (fun h45 => b9_97 (rv := true) ⟨fun _ => ?_, fun h => (by cases h)⟩) (fun n45 => b9_97 (rv := false) ⟨fun h => (by cases h), fun _ => ?_⟩)
          · exact g2 false (by rw [h45]; rfl) (Or.inr h45) (zLe_c hL h45 (by decide))
          · rw [if_neg (fun h => h.elim n43 n45)] at eg
            have := H1 q (zsg b (Int32.ofNat v), 0) eg
            rw [ze64_n, es]; exact this
    refine s55 (D := 5) (b := 30000) hL hc hl (by omega) (by omega) hpm (fun q v e => b9_40 ?_) (fun e v dp' => b9_40 ?_)
    · have g := g40 q v e
      rw [zdf3]
      refine ⟨fun hx => ⟨fun _ => ?_, fun h => (by cases h)⟩, fun hx => ⟨fun _ => ?_, fun h => (by cases h)⟩⟩
      · rw [hx] at g; exact g
      · rw [hx] at g; exact g
    · have h := H2 (zpmi ch p0) (by unfold zpg; rw [if_neg hi, e])
      rw [zdf2 (by omega)]
      exact ⟨fun hx => ⟨fun h => (by cases h), fun _ => h _ _⟩, fun hx => ⟨fun h => (by cases h), fun _ => h _ _⟩⟩
  have g6 : ∀ b, b = decide (ch p0 = 45) → zW zm_9 6 [none, some (.ref 73), none, none, none, none, none, none, none, none] [.int (zbi b)] p (zh (P, T, (yc, yl), (uc, ul), (dc, (zpmi ch p0), (-1 : Int32), dw, dx)) I A w) Q := by
    intro b hb
    refine b9_6 (s51 hc hl (by omega) (fun h => b9_13 (rv := true) ⟨fun h => (by cases h), fun _ => ?_⟩) (fun h => go b hb h))
    have := H1 (zpmi ch p0 + 1) (0, zsg b 1) (by unfold zpg; rw [if_pos h, hb])
    refine ⟨fun hx => ?_, fun hx => ?_⟩
    · rw [hx] at this; exact this
    · rw [hx] at this; exact this
  refine b9 (s51 hc hl (by omega) (fun h => ?_) (fun h => ?_))
  · have e : zpmi ch p0 = p0 + 1 := by unfold zpmi; rw [decide_eq_true h]; rfl
    have := g6 true (decide_eq_true h).symm
    rw [e] at this; exact this
  · have e : zpmi ch p0 = p0 := by unfold zpmi; rw [decide_eq_false h]; rfl
    have := g6 false (decide_eq_false h).symm
    rw [e] at this; exact this
/-- readPower -/
theorem s71 {P : zPt} {T : Nat → zX} {yc uc : Nat → Int32} {yl ul dw : Nat} {dx : Bool} {dc : Nat → Int64} {I : zIt} {A : zAt} {w : Nat → Int64} {p : Nat × Nat} {Q : zR → zH → Prop} {ch : Nat → Int32} {p0 : Nat} {mb : Bool} (hL : zLe ch) (hc : ∀ p, zch yc yl p = ch p) (hl : yl ≤ 120) (hp : p0 ≤ 120) (K1 : ∀ q e, zpx ch p0 = .inl (q, e) → (ch p0 = 120 ∨ mb = true) → Q (.inl (some (.int (Int32.ofNat e)))) (zh (P, T, (yc, yl), (uc, ul), (dc, q, (-1 : Int32), dw, dx)) I A w)) (K2 : ∀ f, zpx ch p0 = .inr f → ∀ x dp', Q (.inl (some (.int x))) (zh (P, T, (yc, yl), (uc, ul), (dc, dp', (Int32.ofNat f), dw, dx)) I A w))
    (K3 : ch p0 ≠ 120 → mb = false → ∀ x dp', Q (.inl (some (.int x))) (zh (P, T, (yc, yl), (uc, ul), (dc, dp', (Int32.ofNat p0), dw, dx)) I A w)) : zT zm_71 [.ref 73, .int (zbi mb)] p (zh (P, T, (yc, yl), (uc, ul), (dc, p0, (-1 : Int32), dw, dx)) I A w) Q := by
  refine b71 (s51 hc hl (by omega) (fun h120 => b71_6 (rv := true) ⟨fun h => (by cases h), fun _ => ?_⟩) (fun n120 => b71_6 (rv := false) ⟨fun _ => ?_, fun h => (by cases h)⟩))
  · have b1 := zLe_c hL h120 (by decide)
    refine s51 hc hl (by omega) (fun h94 => b71_15 (rv := true) ⟨fun h => (by cases h), fun _ => ?_⟩) (fun n94 => b71_15 (rv := false) ⟨fun _ => K1 (p0 + 1) 1 (by unfold zpx; rw [if_pos h120, if_neg n94]) (Or.inl h120), fun h => (by cases h)⟩)
    have b2 := zLe_c hL h94 (by decide)
    refine s57 (k := 7) hc hl (by omega) (by omega) (fun d hd h7 => b71_24 (K1 (p0 + 3) d ?_ (Or.inl h120))) (fun h => b71_24 (K2 (p0 + 2) ?_ _ _))
    · have hd : zdg (ch (p0 + 2)) = some d := hd
      unfold zpx; rw [if_pos h120, if_pos h94, hd]; exact if_pos (by omega)
    · unfold zpx; rw [if_pos h120, if_pos h94]
      cases hd : zdg (ch (p0 + 2)) with
      | none => rfl
      | some d => exact if_neg (by have := h d hd; omega)
  · rw [zdf0]
    exact ⟨fun hm => K1 p0 0 (by unfold zpx; rw [if_neg n120]) (Or.inr hm), fun hm => K3 n120 hm _ _⟩
theorem s71f {P : zPt} {T : Nat → zX} {yc uc : Nat → Int32} {yl ul dw : Nat} {dx : Bool} {dc : Nat → Int64} {I : zIt} {A : zAt} {w : Nat → Int64} {p : Nat × Nat} {Q : zR → zH → Prop} {p0 f : Nat} {mb : Bool} (hl : yl ≤ 120) (hf : f < 2147483648) (H : ∀ x dp', Q (.inl (some (.int x))) (zh (P, T, (yc, yl), (uc, ul), (dc, dp', (Int32.ofNat f), dw, dx)) I A w)) : zT zm_71 [.ref 73, .int (zbi mb)] p (zh (P, T, (yc, yl), (uc, ul), (dc, p0, (Int32.ofNat f), dw, dx)) I A w) Q := by
  refine b71 (s51a hl (fun dp' => b71_6 (rv := true) ⟨fun h => (by cases h), fun _ => ?_⟩) (fun dp' => b71_6 (rv := false) ⟨fun _ => ?_, fun h => (by cases h)⟩))
  · exact s51a hl (fun dp' => b71_15 (rv := true) ⟨fun h => (by cases h), fun _ => s57f hl hf (fun x dp' => b71_24 (H x dp'))⟩) (fun dp' => b71_15 (rv := false) ⟨fun _ => H _ _, fun h => (by cases h)⟩)
  · rw [zdf1 hf]
    exact ⟨fun _ => H _ _, fun _ => H _ _⟩
theorem s284t {P : zPt} {T : Nat → zX} {Y : zYt} {I : zIt} {A : zAt} {w : Nat → Int64} {p : Nat × Nat} {Q : zR → zH → Prop} {j : Nat} (h1 : 1 ≤ j) (h4 : j ≤ 4) (H : ∀ P', (∀ k, k < 8 → (P' j).2.2 k = 0) → Q (.inl none) (zh (P', T, Y) I A w)) : zT zm_284 [.ref (4 * j + 3), .int 0] p (zh (P, T, Y) I A w) Q := by
  have l : ∀ (n x : Nat) (P' : zPt), x + n = 8 → (∀ k, k < x → (P' j).2.2 k = 0) → zW zm_284 5 [some (.ref (4 * j + 3)), some (.int 0), some (.int (Int32.ofNat x)), some (.int (Int32.ofNat 8))] [] p (zh (P', T, Y) I A w) Q := by
    intro n
    induction n with
    | zero => intro x P' hx f1; exact b284t_5 h1 h4 ⟨by omega, by omega, fun _ => H P' (fun k hk => f1 k (by omega)), fun h => by omega⟩
    | succ n ih =>
      intro x P' hx f1
      refine b284t_5 h1 h4 ⟨by omega, by omega, fun h => by omega, fun _ => ⟨by omega, ih (x + 1) _ (by omega) (fun k hk => ?_)⟩⟩
      rw [va_up_self]
      show va_up (P' j).2.2 x 0 k = 0
      by_cases hkx : k = x
      · subst hkx; rw [va_up_self]
      · rw [va_up_ne _ _ hkx]; exact f1 k (by omega)
  exact b284t h1 h4 (l 8 0 P rfl (fun k hk => by omega))
/-- Polynomials.readFrom -/
theorem c70 {P : zPt} {T : Nat → zX} {yc uc : Nat → Int32} {yl ul dw : Nat} {dx : Bool} {dc : Nat → Int64} {I : zIt} {A : zAt} {w : Nat → Int64} {p : Nat × Nat} {Q : zR → zH → Prop} {ch : Nat → Int32} {p0 j : Nat} (h1 : 1 ≤ j) (h4 : j ≤ 4) (hL : zLe ch) (hc : ∀ p, zch yc yl p = ch p) (hl : yl ≤ 120) (hp : p0 ≤ 120) (H1 : ∀ q e, zpp ch (zpj j) 9 8 p0 (fun _ => 0) = .inl (q, e) → ∀ P', Q (.inl (some (.long (zen e)))) (zh (P', T, (yc, yl), (uc, ul), (dc, q, (-1 : Int32), dw, dx)) I A w)) (H2 : ∀ f, zpp ch (zpj j) 9 8 p0 (fun _ => 0) = .inr f → ∀ P' v dp', Q (.inl (some (.long v))) (zh (P', T, (yc, yl), (uc, ul), (dc, dp', (Int32.ofNat f), dw, dx)) I A w)) : zT zm_70 [.ref (4 * j), .ref 73] p (zh (P, T, (yc, yl), (uc, ul), (dc, p0, (-1 : Int32), dw, dx)) I A w) Q := by
  have hr := zpj_p h1 h4
  have hr7 := zprm_lt hr
  generalize hrj : zpj j = r at *
  have lp : ∀ (n b x p1 : Nat) (F : Nat → Nat) (P : zPt), b < n → x + n = 9 → b ≤ 8 → p1 ≤ 120 → (∀ k, k < 8 → (P j).2.2 k = Int32.ofNat (F k)) → (∀ k, F k < r) → (∀ k, k < b → F k = 0) → zpp ch r n b p1 F = zpp ch r 9 8 p0 (fun _ => 0) → zW zm_70 13 [some (.ref (4 * j)), some (.ref 73), some (.int (Int32.ofNat b)), some (.int (Int32.ofNat x)), none, none, none, none] [] p (zh (P, T, (yc, yl), (uc, ul), (dc, p1, (-1 : Int32), dw, dx)) I A w) Q := by
    intro n
    induction n with
    | zero => intro b x p1 F P h; omega
    | succ n ih =>
      intro b x p1 F P hbn hx hb hp1 hF hFr hF0 eo
      rw [zpp] at eo
      have fail : ∀ f, zptm ch r b p1 = .inr f → ∀ P' v dp', Q (.inl (some (.long v))) (zh (P', T, (yc, yl), (uc, ul), (dc, dp', (Int32.ofNat f), dw, dx)) I A w) := by
        intro f hf
        rw [hf] at eo
        exact H2 f eo.symm
      have ff : ∀ (f dp' : Nat) (c rv : Int32), zptm ch r b p1 = .inr f → zW zm_70 58 [some (.ref (4 * j)), some (.ref 73), some (.int (Int32.ofNat b)), some (.int (Int32.ofNat x)), some (.int (Int32.ofNat p1)), none, some (.int c), none] [.int rv] p (zh (P, T, (yc, yl), (uc, ul), (dc, dp', (Int32.ofNat f), dw, dx)) I A w) Q := by
        intro f dp' c rv hf
        have hf2 := zptm_f hL hp1 hf
        refine b70_58 h1 h4 ?_
        rw [zdf1 (by omega), zdf2 (by omega)]
        exact ⟨fun _ => ⟨fun _ => fail f hf _ _ _, fun h => (by cases h)⟩, fun _ => ⟨fun _ => fail f hf _ _ _, fun h => (by cases h)⟩⟩
      have ok : ∀ (c q e : Nat), e < 8 → q ≤ 120 → (b ≤ e → zptm ch r b p1 = .inr p1) → (¬ b ≤ e → zptm ch r b p1 = .inl (q, e, c)) → zW zm_70 58 [some (.ref (4 * j)), some (.ref 73), some (.int (Int32.ofNat b)), some (.int (Int32.ofNat x)), some (.int (Int32.ofNat p1)), none, some (.int (Int32.ofNat c)), none] [.int (Int32.ofNat e)] p (zh (P, T, (yc, yl), (uc, ul), (dc, q, (-1 : Int32), dw, dx)) I A w) Q := by
        intro c q e he hq k1 k2
        have hlt : Int32.ofNat e < Int32.ofNat b ↔ e < b := by rw [Int32.lt_iff_toInt_lt, zN_i (by omega), zN_i (by omega)]; omega
        refine b70_58 h1 h4 ?_
        rw [hlt, zdf0, zdf2 (by omega), zdf3]
        refine ⟨fun hlt => ⟨fun h => (by cases h), fun _ => ⟨fun h => absurd h (zN_ge0 (by omega)), fun _ k hk ek => ?_⟩⟩, fun hge => ⟨fun _ => fail p1 (k1 (by omega)) _ _ _, fun h => (by cases h)⟩⟩
        have : k = e := (zN_inj (by omega) hk ek).symm
        subst this
        have et := k2 (by omega)
        obtain ⟨o1, o2, o3, o4⟩ := zptm_ok hL hr7.1 hp1 et
        rw [et] at eo
        have eo : (if ch q = 43 then zpp ch r n k (q + 1) (zuF F k c) else .inl (q, (Int32.ofNat (zho r (zuF F k c) 8), 0))) = _ := eo
        have hF' : ∀ i, i < 8 → ((va_up P j ((P j).1, (P j).2.1, va_up (P j).2.2 k (Int32.ofNat c))) j).2.2 i = Int32.ofNat (zuF F k c i) := by
          intro i hi
          rw [va_up_self]
          show va_up (P j).2.2 k (Int32.ofNat c) i = _
          unfold zuF
          by_cases hik : i = k
          · subst hik; rw [va_up_self, if_pos rfl]
          · rw [va_up_ne _ _ hik, if_neg hik]; exact hF i hi
        have hFr' : ∀ i, zuF F k c i < r := by
          intro i
          unfold zuF; split
          · exact o4
          · exact hFr i
        refine ⟨fun _ => ⟨he, s51 hc hl (by omega) (fun h43 => b70_111 (rv := true) h1 h4 ⟨fun _ => ?_, fun h => (by cases h)⟩) (fun n43 => b70_111 (rv := false) h1 h4 ⟨fun h => (by cases h), fun _ => ?_⟩)⟩, fun h => (by omega)⟩
        · rw [if_pos h43] at eo
          have := zLe_c hL h43 (by decide)
          exact ih k (x + 1) (q + 1) (zuF F k c) _ (by omega) (by omega) (by omega) (by omega) hF' hFr' (fun i hi => by unfold zuF; rw [if_neg (by omega)]; exact hF0 i (by omega)) eo
        · rw [if_neg n43] at eo
          have hq2 := H1 q _ eo.symm (va_up P j ((P j).1, (P j).2.1, va_up (P j).2.2 k (Int32.ofNat c)))
          refine s62t h1 h4 hF' (fun i _ => by have := hFr' i; omega) (b70_131 ?_)
          rw [hrj]
          exact hq2
      refine b70_13 h1 h4 ⟨by omega, fun h => (by omega), fun _ => s56 hc hl (by omega) (fun d hd => b70_29 (rv := true) h1 h4 ⟨fun h => (by cases h), fun _ => ?_⟩) (fun hd => b70_29 (rv := false) h1 h4 ⟨fun _ => ?_, fun h => (by cases h)⟩)⟩
      · rw [hrj, show Int32.ofNat r - 1 = Int32.ofNat (r - 1) from zN_sb rfl rfl (by omega)]
        have hd9 := (zdg_some hd).1
        have hp2 := zdg_L hL hd
        refine s57 hc hl (by omega) (by omega) (fun d2 hd2 hk => b70_46 ?_) (fun h => b70_46 ?_)
        · rw [hd] at hd2
          cases hd2
          have ez : zptm ch r b p1 = match zpx ch (p1 + 1) with
              | .inr f => .inr f
              | .inl q => if b ≤ q.2 then .inr p1 else .inl (q.1, q.2, d) := by
            unfold zptm; rw [hd]; exact if_neg (by omega)
          refine s71 hL hc hl (by omega) (fun q e he _ => ?_) (fun f hf x dp' => ff f dp' _ x (by rw [ez, hf])) (fun _ h => (by cases h))
          obtain ⟨u1, u2⟩ := zpx_ok hL (by omega) he
          rw [he] at ez
          exact ok d q e u2 u1 (fun h => ez.trans (if_pos h)) (fun h => ez.trans (if_neg h))
        · have ez : zptm ch r b p1 = .inr p1 := by unfold zptm; rw [hd]; exact if_pos (by have := h d hd; omega)
          exact s71f hl (by omega) (fun x dp' => ff p1 dp' _ x ez)
      · have ez : zptm ch r b p1 = if ch p1 = 120 then (match zpx ch p1 with
            | .inr f => .inr f
            | .inl q => if b ≤ q.2 then .inr p1 else .inl (q.1, q.2, 1)) else .inr p1 := by
          unfold zptm; rw [hd]; rfl
        refine s71 hL hc hl hp1 (fun q e he hh => ?_) (fun f hf x dp' => ?_) (fun h _ x dp' => ff p1 dp' _ x (ez.trans (if_neg h)))
        · have h120 : ch p1 = 120 := hh.resolve_right (by decide)
          obtain ⟨u1, u2⟩ := zpx_ok hL hp1 he
          rw [if_pos h120, he] at ez
          exact ok 1 q e u2 u1 (fun h => ez.trans (if_pos h)) (fun h => ez.trans (if_neg h))
        · have h120 : ch p1 = 120 := by
            apply Classical.byContradiction
            intro hn
            unfold zpx at hf
            rw [if_neg hn] at hf
            cases hf
          rw [if_pos h120, hf] at ez
          exact ff f dp' _ x ez
  refine b70 h1 h4 (s284t h1 h4 (fun P' hz => b70_8 (lp 9 8 0 p0 (fun _ => 0) P' (by omega) (by omega) (by omega) hp (fun k hk => hz k hk) (fun _ => by omega) (fun _ _ => rfl) rfl)))
/-- readFrom -/
theorem c_read {P : zPt} {T : Nat → zX} {yc uc : Nat → Int32} {yl ul dw : Nat} {dx : Bool} {dc : Nat → Int64} {I : zIt} {A : zAt} {w : Nat → Int64} {p : Nat × Nat} {Q : zR → zH → Prop} {ch : Nat → Int32} {r p0 : Nat} (hL : zLe ch) (hc : ∀ p, zch yc yl p = ch p) (hl : yl ≤ 120) (hr : zrg r) (hp : p0 ≤ 120) (H1 : ∀ q e, zpe ch r p0 = .inl (q, e) → ∀ P', Q (.inl (some (.long (zen e)))) (zh (P', T, (yc, yl), (uc, ul), (dc, q, (-1 : Int32), dw, dx)) I A w)) (H2 : ∀ f, zpe ch r p0 = .inr f → ∀ P' v dp', Q (.inl (some (.long v))) (zh (P', T, (yc, yl), (uc, ul), (dc, dp', (Int32.ofNat f), dw, dx)) I A w)) : zT (zrm r zm_24 zm_9 zm_70) [.ref (zra r), .ref 73] p (zh (P, T, (yc, yl), (uc, ul), (dc, p0, (-1 : Int32), dw, dx)) I A w) Q := by
  rcases zrg_c hr with rfl | rfl | hq
  · exact c24 hL hc hl hp (fun q e eo => H1 q e eo P) (fun f eo => H2 f eo P)
  · exact c9 hL hc hl hp (fun q e eo => H1 q e eo P) (fun f eo => H2 f eo P)
  · rw [zpe_p hq] at H1 H2
    obtain ⟨j, h1, h4, rfl, e2, e3⟩ := zpj_of hq
    rw [e3, e2]
    exact c70 h1 h4 hL hc hl hp H1 H2
