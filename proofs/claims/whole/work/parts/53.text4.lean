/-! TEXTS: the class reads rows and matrices -/
def zCC (dc : Nat → Int64) (row w : Nat) (E : zMe) : Prop := ∀ i c, i < row → c < w → dc (i * 4 + c) = zen (E i c)
/-- readRow -/
theorem s54 {T : Nat → zX} {yc uc : Nat → Int32} {yl ul : Nat} {I : zIt} {A : zAt} {w : Nat → Int64} {p : Nat × Nat} {Q : zR → zH → Prop} {ch : Nat → Int32} {r p0 row wd : Nat} {P0 : zPt} {dc0 : Nat → Int64} (hL : zLe ch) (hc : ∀ p, zch yc yl p = ch p) (hl : yl ≤ 120) (hr : zrg r) (hp : p0 ≤ 120) (hrow : row < 4) (hw : row = 0 ∨ (1 ≤ wd ∧ wd ≤ 4))
    (HA : ∀ q n C, zprw ch r (if row = 0 then 4 else wd) 4 0 p0 (fun _ => (0, 0)) = .inl (q, n, C) → ¬ n < (if row = 0 then n else wd) → row < 3 → ch q = 59 → ∀ P' dc', (∀ c, c < n → dc' (row * 4 + c) = zen (C c)) → (∀ k, k < row * 4 → dc' k = dc0 k) → Q (.inl none) (zh (P', T, (yc, yl), (uc, ul), (dc', (q + 1), (-1 : Int32), (if row = 0 then n else wd), false)) I A w))
    (HB : ∀ q n C, zprw ch r (if row = 0 then 4 else wd) 4 0 p0 (fun _ => (0, 0)) = .inl (q, n, C) → ¬ n < (if row = 0 then n else wd) → ¬ (row < 3 ∧ ch q = 59) → ch q = 93 → ∀ P' dc', (∀ c, c < n → dc' (row * 4 + c) = zen (C c)) → (∀ k, k < row * 4 → dc' k = dc0 k) → Q (.inl none) (zh (P', T, (yc, yl), (uc, ul), (dc', (q + 1), (-1 : Int32), (if row = 0 then n else wd), true)) I A w))
    (HF : ∀ f, (zprw ch r (if row = 0 then 4 else wd) 4 0 p0 (fun _ => (0, 0)) = .inr f ∨ ∃ n C, zprw ch r (if row = 0 then 4 else wd) 4 0 p0 (fun _ => (0, 0)) = .inl (f, n, C) ∧ (n < (if row = 0 then n else wd) ∨ (¬ (row < 3 ∧ ch f = 59) ∧ ch f ≠ 93))) → ∀ P' dc' dp' dw' dx', Q (.inl none) (zh (P', T, (yc, yl), (uc, ul), (dc', dp', (Int32.ofNat f), dw', dx')) I A w)) :
    zT zm_54 [.ref 73, .ref (zra r), .int (Int32.ofNat row)] p (zh (P0, T, (yc, yl), (uc, ul), (dc0, p0, (-1 : Int32), wd, false)) I A w) Q := by
  generalize hm : (if row = 0 then 4 else wd) = most at *
  have hm4 : 1 ≤ most ∧ most ≤ 4 := by rw [← hm]; split <;> omega
  obtain ⟨k1, k2⟩ := zprw_ok hL hr (most := most) 4 0 p0 (fun _ => (0, 0)) hp (by omega) (fun _ => zok_0 hr) (fun _ _ => rfl)
  have e93 : ∀ (q n : Nat) (C : zVe) (P1 : zPt) (dc1 : Nat → Int64), zprw ch r most 4 0 p0 (fun _ => (0, 0)) = .inl (q, n, C) → ¬ n < (if row = 0 then n else wd) → ¬ (row < 3 ∧ ch q = 59) → (∀ c, c < n → dc1 (row * 4 + c) = zen (C c)) → (∀ k, k < row * 4 → dc1 k = dc0 k) →
      zT zm_50 [.ref 73, .int (93 : Int32)] p (zh (P1, T, (yc, yl), (uc, ul), (dc1, q, (-1 : Int32), (if row = 0 then n else wd), false)) I A w) (zK zm_54 144 [some (.ref 73), none, none, none, none, none, none] [] p Q) := by
    intro q n C P1 dc1 er hge h59 hC hk
    have hq := (k1 q n C er).1
    exact s50 hc hl (by omega) (fun h => b54_144 (HB q n C er hge h59 h P1 dc1 hC hk)) (fun h => b54_144 (HF q (Or.inr ⟨n, C, er, Or.inr ⟨h59, h⟩⟩) _ _ _ _ _))
  have e59 : ∀ (q n : Nat) (C : zVe) (P1 : zPt) (dc1 : Nat → Int64), zprw ch r most 4 0 p0 (fun _ => (0, 0)) = .inl (q, n, C) → ¬ n < (if row = 0 then n else wd) → ¬ row = 3 → (∀ c, c < n → dc1 (row * 4 + c) = zen (C c)) → (∀ k, k < row * 4 → dc1 k = dc0 k) →
      zT zm_51 [.ref 73, .int (59 : Int32)] p (zh (P1, T, (yc, yl), (uc, ul), (dc1, q, (-1 : Int32), (if row = 0 then n else wd), false)) I A w) (zK zm_54 135 [some (.ref 73), none, none, none, none, none, none] [] p Q) := by
    intro q n C P1 dc1 er hge h3 hC hk
    have hq := (k1 q n C er).1
    exact s51 hc hl (by omega) (fun h => b54_135 (rv := true) ⟨fun _ => HA q n C er hge (by omega) h P1 dc1 hC hk, fun h => (by cases h)⟩) (fun h => b54_135 (rv := false) ⟨fun h => (by cases h), fun _ => e93 q n C P1 dc1 er hge (fun g => h g.2) hC hk⟩)
  have tail : ∀ (q n : Nat) (C : zVe) (P1 : zPt) (dc1 : Nat → Int64), zprw ch r most 4 0 p0 (fun _ => (0, 0)) = .inl (q, n, C) → (∀ c, c < n → dc1 (row * 4 + c) = zen (C c)) → (∀ k, k < row * 4 → dc1 k = dc0 k) →
      (row < 2147483648 ∧ ((¬ row = 0 → (n < 2147483648 ∧ (wd < 2147483648 ∧ ((wd ≤ n → ((row = 3 → zT zm_50 [.ref 73, .int (93 : Int32)] p (zh (P1, T, (yc, yl), (uc, ul), (dc1, q, (-1 : Int32), wd, false)) I A w) (zK zm_54 144 [some (.ref 73), none, none, none, none, none, none] [] p Q)) ∧ (¬ row = 3 → zT zm_51 [.ref 73, .int (59 : Int32)] p (zh (P1, T, (yc, yl), (uc, ul), (dc1, q, (-1 : Int32), wd, false)) I A w) (zK zm_54 135 [some (.ref 73), none, none, none, none, none, none] [] p Q)))) ∧ (n < wd → Q (.inl none) (zh (P1, T, (yc, yl), (uc, ul), (dc1, q, (Int32.ofNat q), wd, false)) I A w)))))) ∧
        (row = 0 → (n < 2147483648 ∧ ((n ≤ n → ((row = 3 → zT zm_50 [.ref 73, .int (93 : Int32)] p (zh (P1, T, (yc, yl), (uc, ul), (dc1, q, (-1 : Int32), n, false)) I A w) (zK zm_54 144 [some (.ref 73), none, none, none, none, none, none] [] p Q)) ∧ (¬ row = 3 → zT zm_51 [.ref 73, .int (59 : Int32)] p (zh (P1, T, (yc, yl), (uc, ul), (dc1, q, (-1 : Int32), n, false)) I A w) (zK zm_54 135 [some (.ref 73), none, none, none, none, none, none] [] p Q)))) ∧ (n < n → Q (.inl none) (zh (P1, T, (yc, yl), (uc, ul), (dc1, q, (Int32.ofNat q), n, false)) I A w))))))) := by
    intro q n C P1 dc1 er hC hk
    have hn := (k1 q n C er).2.2.1
    have a1 := e93 q n C P1 dc1 er
    have a2 := e59 q n C P1 dc1 er
    refine ⟨by omega, fun h0 => ⟨by omega, by omega, fun hle => ⟨fun h3 => ?_, fun h3 => ?_⟩, fun hlt => ?_⟩, fun h0 => ⟨by omega, fun _ => ⟨fun h3 => (by omega), fun h3 => ?_⟩, fun h => (by omega)⟩⟩
    · rw [if_neg h0] at a1
      exact a1 (by omega) (by omega) hC hk
    · rw [if_neg h0] at a2
      exact a2 (by omega) h3 hC hk
    · exact HF q (Or.inr ⟨n, C, er, Or.inl (by rw [if_neg h0]; exact hlt)⟩) _ _ _ _ _
    · rw [if_pos h0] at a2
      exact a2 (by omega) h3 hC hk
  have lp : ∀ (f n p1 : Nat) (C : zVe) (P1 : zPt) (dc1 : Nat → Int64), n + f = 4 → n < most → p1 ≤ 120 → (∀ c, c < n → dc1 (row * 4 + c) = zen (C c)) → (∀ k, k < row * 4 → dc1 k = dc0 k) → zprw ch r most f n p1 C = zprw ch r most 4 0 p0 (fun _ => (0, 0)) →
      zW zm_54 22 [some (.ref 73), some (.ref (zra r)), some (.int (Int32.ofNat row)), some (.int (Int32.ofNat most)), some (.int (Int32.ofNat n)), some (.int (Int32.ofNat 1)), some (.int (Int32.ofNat n))] [] p (zh (P1, T, (yc, yl), (uc, ul), (dc1, p1, (-1 : Int32), wd, false)) I A w) Q := by
    intro f
    induction f with
    | zero => intro n p1 C P1 dc1 h1 h2; omega
    | succ f ih =>
      intro n p1 C P1 dc1 hn hnm hp1 hC hk eo
      rw [zprw] at eo
      refine b54_22 ⟨by omega, by omega, fun h => (by omega), fun _ => ⟨fun h => (by omega), fun _ => ⟨by omega, fun h => (by omega), fun _ => ?_⟩⟩⟩
      refine c_read hL hc hl hr hp1 (fun q e ee P2 => b54_54 ?_) (fun x ee P2 v dp' => b54_54 ?_)
      · rw [ee] at eo
        have eo : (if n + 1 < most ∧ ch q = 44 then zprw ch r most f (n + 1) (q + 1) (zvu C n e) else .inl (q, n + 1, zvu C n e)) = _ := eo
        have hq := ((zpe_ok hL hr hp1).1 q e ee).1
        have hC' : ∀ c, c < n + 1 → va_up dc1 (row * 4 + n) (zen e) (row * 4 + c) = zen (zvu C n e c) := by
          intro c hcn
          unfold zvu
          by_cases h : c = n
          · subst h; rw [va_up_self, if_pos rfl]
          · rw [va_up_ne _ _ (by omega), if_neg h]; exact hC c (by omega)
        have hk' : ∀ k, k < row * 4 → va_up dc1 (row * 4 + n) (zen e) k = dc0 k := fun k hkk => by rw [va_up_ne _ _ (by omega)]; exact hk k hkk
        rw [zdf3]
        refine ⟨by omega, fun _ => ⟨by omega, by omega, fun hge => ?_, fun hlt => ?_⟩, fun h => (by cases h)⟩
        · rw [if_neg (by omega)] at eo
          have t := tail q (n + 1) _ P2 _ eo.symm hC' hk'
          refine b54_22 ?_
          rw [zdf0]
          exact ⟨by omega, by omega, fun _ => t, fun h => (by omega)⟩
        · refine s51 hc hl (by omega) (fun h44 => b54_78 (rv := true) ⟨fun h => (by cases h), fun _ => ?_⟩) (fun n44 => b54_78 (rv := false) ⟨fun _ => ?_, fun h => (by cases h)⟩)
          · rw [if_pos ⟨hlt, h44⟩] at eo
            have := zLe_c hL h44 (by decide)
            exact ih (n + 1) (q + 1) _ P2 _ (by omega) hlt (by omega) hC' hk' eo
          · rw [if_neg (fun g => n44 g.2)] at eo
            have t := tail q (n + 1) _ P2 _ eo.symm hC' hk'
            refine b54_22 ?_
            rw [zdf0]
            exact ⟨by omega, by omega, fun h => (by omega), fun _ => ⟨fun h => (by omega), fun _ => ⟨by omega, fun _ => t, fun h => absurd rfl h⟩⟩⟩
      · rw [ee] at eo
        have hx := (zpe_ok hL hr hp1).2 x ee
        rw [zdf2 (by omega)]
        exact ⟨by omega, fun h => (by cases h), fun _ => HF x (Or.inl eo.symm) _ _ _ _ _⟩
  refine b54 ⟨by omega, fun h0 => ?_, fun h0 => ?_⟩
  · rw [if_neg h0] at hm
    have g := lp 4 0 p0 _ P0 dc0 (by omega) (by omega) hp (fun c hc => absurd hc (Nat.not_lt_zero c)) (fun _ _ => rfl) rfl
    rw [← hm] at g
    exact g
  · rw [if_pos h0] at hm
    have g := lp 4 0 p0 _ P0 dc0 (by omega) (by omega) hp (fun c hc => absurd hc (Nat.not_lt_zero c)) (fun _ _ => rfl) rfl
    rw [← hm] at g
    exact g
theorem s32o {P : zPt} {T : Nat → zX} {Y : zYt} {I : zIt} {A : zAt} {w : Nat → Int64} {p : Nat × Nat} {Q : zR → zH → Prop} {i a b r h d : Nat} {v : Int64} (hi : i < 6) (hX : zXb (T i)) (hh : zCh (T i) r h d) (ha : a < 4) (hb : b < 4) (hab : ¬ (a < h ∧ b < d)) (H : Q (.inl none) (zh (P, T, Y) I A w)) : zT zm_32 [.ref (21 + 8 * i), .int (Int32.ofNat a), .int (Int32.ofNat b), .long v] p (zh (P, T, Y) I A w) Q := by
  refine b32 hi ⟨fun _ => H, fun c => ?_⟩
  exfalso
  rw [zcell_N hX (by omega) (by omega), hh.2.1, hh.2.2, Bool.and_eq_true, decide_eq_true_iff, decide_eq_true_iff] at c
  exact hab c
/-- readMatrix -/
theorem s49 {P : zPt} {T : Nat → zX} {yc uc : Nat → Int32} {yl ul dp dw : Nat} {df : Int32} {dx : Bool} {dc : Nat → Int64} {I : zIt} {A : zAt} {w : Nat → Int64} {p : Nat × Nat} {Q : zR → zH → Prop} {ch : Nat → Int32} {r : Nat} (hL : zLe ch) (hc : ∀ p, zch yc yl p = ch p) (hl : yl ≤ 120) (hr : zrg r)
    (H1 : ∀ h wd E, zpa ch yl r = .inl (h, wd, E) → ∀ P' T' dc' dp' dw' dx', zTo 3 T T' → (∀ g, zCX (T' 3) r h wd E (0, E, g)) → Q (.inl (some (.int (-1)))) (zh (P', T', (yc, yl), (uc, ul), (dc', dp', (-1 : Int32), dw', dx')) I A w))
    (H2 : ∀ f, zpa ch yl r = .inr f → ∀ P' dc' dp' dw' dx', Q (.inl (some (.int (Int32.ofNat f)))) (zh (P', T, (yc, yl), (uc, ul), (dc', dp', (Int32.ofNat f), dw', dx')) I A w)) : zT zm_49 [.ref 73, .ref (zra r), .ref (21 + 8 * 3)] p (zh (P, T, (yc, yl), (uc, ul), (dc, dp, df, dw, dx)) I A w) Q := by
  obtain ⟨_, kf⟩ := zpa_ok hL (l := yl) hr
  -- with a fault the loop ends
  have fl : ∀ (f x3 x4 : Nat) (P : zPt) (dc : Nat → Int64) (dp dw : Nat) (dx : Bool), x4 ≤ 4 → zpa ch yl r = .inr f → zW zm_49 31 [some (.ref 73), some (.ref (zra r)), some (.ref (21 + 8 * 3)), some (.int (Int32.ofNat x3)), some (.int (Int32.ofNat x4))] [] p (zh (P, T, (yc, yl), (uc, ul), (dc, dp, (Int32.ofNat f), dw, dx)) I A w) Q := by
    intro f x3 x4 P dc dp dw dx hx hf
    have h120 := kf f hf
    have q := H2 f hf P dc dp dw dx
    refine b49_31 (by omega) ?_
    rw [zdf2 (by omega)]
    exact ⟨by omega, fun _ => ⟨fun _ => ⟨fun _ => q, fun h => (by cases h)⟩, fun h => (by cases h)⟩, fun _ => ⟨fun _ => ⟨fun _ => ⟨fun _ => q, fun h => (by cases h)⟩, fun h => (by cases h)⟩, fun _ => ⟨fun _ => ⟨fun _ => ⟨fun _ => q, fun h => (by cases h)⟩, fun h => (by cases h)⟩, fun h => (by cases h)⟩⟩⟩
  by_cases h91 : ch 0 = 91
  · have ea : zpa ch yl r = match zpm ch r 4 0 0 1 zZ with
        | .inr f => .inr f
        | .inl q => if q.2.2.1 < yl then .inr q.2.2.1 else .inl (q.1, q.2.1, q.2.2.2) := by unfold zpa; rw [if_pos h91]; rfl
    -- the matrix of the cells
    have put : ∀ (h wd q : Nat) (E : zMe) (P : zPt) (dc : Nat → Int64) (dx : Bool), zpa ch yl r = .inl (h, wd, E) → zCC dc h wd E → zT zm_28 [.ref (21 + 8 * 3), .ref (zra r), .int (Int32.ofNat h), .int (Int32.ofNat wd)] p (zh (P, T, (yc, yl), (uc, ul), (dc, q, (-1 : Int32), wd, dx)) I A w) (zK zm_49 115 [some (.ref 73), none, some (.ref (21 + 8 * 3)), none, none] [] p Q) := by
      intro h wd q E P dc dx ep hC
      obtain ⟨hsh, hE⟩ := (zpa_ok hL hr).1 h wd E ep
      have h4 := hsh.2.2.1
      have h5 := hsh.2.2.2.2
      refine s28 (i := 3) (r := r) (h := h) (d := wd) (by omega) (fun T1 f1 f2 => b49_115 ?_)
      have g3 := f2 zg0
      have wZ : zwf r h wd zZ (0, zZ, zg0) := zwf_0 (zZ_w hr)
      have lp : ∀ (n x : Nat) (T2 : Nat → zX), x + n = 16 → zTo 3 T T2 → zXb (T2 3) → zCh (T2 3) r h wd → zCe (T2 3).2.2.2.2.1 (fun a c => if a * 4 + c < x ∧ a < h ∧ c < wd then E a c else (0, 0)) →
          zW zm_49 118 [some (.ref 73), none, some (.ref (21 + 8 * 3)), none, some (.int (Int32.ofNat x))] [] p (zh (P, T2, (yc, yl), (uc, ul), (dc, q, (-1 : Int32), wd, dx)) I A w) Q := by
        intro n
        induction n with
        | zero =>
          intro x T2 hx g1 g2 g3 g4
          refine b49_118 (by omega) ⟨by omega, fun _ => ?_, fun h => (by omega)⟩
          refine s29 (i := 3) (r := r) (h := h) (d := wd) (E := E) (by omega) g3 (fun a c ha hc => ?_) (fun T3 q1 q2 => b49_154 (H1 h wd E ep _ _ _ _ _ _ (zTo_t g1 q1) q2))
          rw [g4 a c ha hc]
          show zen (if a * 4 + c < x ∧ a < h ∧ c < wd then E a c else (0, 0)) = _
          by_cases hac : a < h ∧ c < wd
          · rw [if_pos ⟨by omega, hac.1, hac.2⟩]
          · rw [if_neg (fun g => hac g.2), hE.2 a c hac]
        | succ n ih =>
          intro x T2 hx g1 g2 g3 g4
          refine b49_118 (by omega) ⟨by omega, fun h => (by omega), fun _ => ⟨by omega, ?_⟩⟩
          by_cases hab : x / 4 < h ∧ x % 4 < wd
          · refine s32 (by omega) g2 g3 hab.1 hab.2 (b49_144 (ih (x + 1) _ (by omega) (zTo_t g1 zTo_u) ?_ ?_ ?_))
            · rw [va_up_self]; exact g2
            · rw [va_up_self]; exact g3
            · rw [va_up_self]
              intro a c ha hc
              show va_up (T2 3).2.2.2.2.1 (x / 4 * 4 + x % 4) _ (a * 4 + c) = zen (if a * 4 + c < x + 1 ∧ a < h ∧ c < wd then E a c else (0, 0))
              by_cases hac : a = x / 4 ∧ c = x % 4
              · obtain ⟨rfl, rfl⟩ := hac
                rw [va_up_self, if_pos ⟨by omega, hab.1, hab.2⟩, ← hC _ _ hab.1 hab.2, show x / 4 * 4 + x % 4 = x by omega]
              · rw [va_up_ne _ _ (by omega), g4 a c ha hc]
                show zen (if a * 4 + c < x ∧ a < h ∧ c < wd then E a c else (0, 0)) = _
                by_cases hp : a * 4 + c < x ∧ a < h ∧ c < wd
                · rw [if_pos hp, if_pos ⟨by omega, hp.2⟩]
                · rw [if_neg hp, if_neg (by omega)]
          · refine s32o (by omega) g2 g3 (by omega) (by omega) hab (b49_144 (ih (x + 1) _ (by omega) g1 g2 g3 (fun a c ha hc => ?_)))
            rw [g4 a c ha hc]
            show zen (if a * 4 + c < x ∧ a < h ∧ c < wd then E a c else (0, 0)) = zen (if a * 4 + c < x + 1 ∧ a < h ∧ c < wd then E a c else (0, 0))
            by_cases hp : a * 4 + c < x ∧ a < h ∧ c < wd
            · rw [if_pos hp, if_pos ⟨by omega, hp.2⟩]
            · rw [if_neg hp, if_neg]
              intro g
              apply hab
              have : x / 4 = a := by omega
              have : x % 4 = c := by omega
              omega
      refine lp 16 0 T1 (by omega) f1 (zCX_b hsh wZ g3) g3.1 (fun a c ha hc => ?_)
      rw [g3.2.2.1 a c ha hc]
      show _ = zen (if a * 4 + c < 0 ∧ a < h ∧ c < wd then E a c else (0, 0))
      rw [if_neg (by omega)]; rfl
    -- behind "]"
    have cl : ∀ (h wd q : Nat) (E : zMe) (P : zPt) (dc : Nat → Int64), h ≤ 4 → q ≤ 120 → zpm ch r 4 0 0 1 zZ = .inl (h, wd, q, E) → zCC dc h wd E → zW zm_49 31 [some (.ref 73), some (.ref (zra r)), some (.ref (21 + 8 * 3)), some (.int (Int32.ofNat h)), some (.int (Int32.ofNat h))] [] p (zh (P, T, (yc, yl), (uc, ul), (dc, q, (-1 : Int32), wd, true)) I A w) Q := by
      intro h wd q E P dc hh hq em hC
      rw [em] at ea
      have ea : zpa ch yl r = if q < yl then .inr q else .inl (h, wd, E) := ea
      have ok : yl ≤ q → zT zm_28 [.ref (21 + 8 * 3), .ref (zra r), .int (Int32.ofNat h), .int (Int32.ofNat wd)] p (zh (P, T, (yc, yl), (uc, ul), (dc, q, (-1 : Int32), wd, true)) I A w) (zK zm_49 115 [some (.ref 73), none, some (.ref (21 + 8 * 3)), none, none] [] p Q) := fun hle => put h wd q E P dc true (ea.trans (if_neg (by omega))) hC
      have no : q < yl → Q (.inl (some (.int (Int32.ofNat q)))) (zh (P, T, (yc, yl), (uc, ul), (dc, q, (Int32.ofNat q), wd, true)) I A w) := fun hlt => H2 q (ea.trans (if_pos hlt)) _ _ _ _ _
      refine b49_31 (by omega) ?_
      rw [zdf3, zdf0, zdf2 (by omega)]
      exact ⟨by omega, fun _ => ⟨fun h => (by cases h), fun _ => ⟨by omega, by omega, fun hle => ⟨fun h => (by cases h), fun _ => ok hle⟩, fun hlt => ⟨fun _ => no hlt, fun h => (by cases h)⟩⟩⟩, fun _ => ⟨fun _ => ⟨fun h => (by cases h), fun _ => ⟨by omega, by omega, fun hle => ⟨fun h => (by cases h), fun _ => ok hle⟩, fun hlt => ⟨fun _ => no hlt, fun h => (by cases h)⟩⟩⟩, fun h => (by cases h)⟩⟩
    have lp : ∀ (f row wd p1 x3 : Nat) (E : zMe) (P : zPt) (dc : Nat → Int64), row + f = 4 → row < 4 → p1 ≤ 120 → (row = 0 ∨ (1 ≤ wd ∧ wd ≤ 4)) → zEw r row wd E → zCC dc row wd E → zpm ch r f row wd p1 E = zpm ch r 4 0 0 1 zZ → zW zm_49 31 [some (.ref 73), some (.ref (zra r)), some (.ref (21 + 8 * 3)), some (.int (Int32.ofNat x3)), some (.int (Int32.ofNat row))] [] p (zh (P, T, (yc, yl), (uc, ul), (dc, p1, (-1 : Int32), wd, false)) I A w) Q := by
      intro f
      induction f with
      | zero => intro row wd p1 x3 E P dc h1 h2; omega
      | succ f ih =>
        intro row wd p1 x3 E P dc hf hrow hp1 hwd hE hCC eo
        have hm : 0 < (if row = 0 then 4 else wd) := by split <;> omega
        obtain ⟨k1, k2⟩ := zprw_ok hL hr (most := if row = 0 then 4 else wd) 4 0 p1 (fun _ => (0, 0)) hp1 hm (fun _ => zok_0 hr) (fun _ _ => rfl)
        rw [zpm] at eo
        have key : ∀ q n C, zprw ch r (if row = 0 then 4 else wd) 4 0 p1 (fun _ => (0, 0)) = .inl (q, n, C) → ¬ n < (if row = 0 then n else wd) → ∀ dc', (∀ c, c < n → dc' (row * 4 + c) = zen (C c)) → (∀ k, k < row * 4 → dc' k = dc k) → q ≤ 120 ∧ 1 ≤ (if row = 0 then n else wd) ∧ (if row = 0 then n else wd) ≤ 4 ∧ zEw r (row + 1) (if row = 0 then n else wd) (zuR E row C) ∧ zCC dc' (row + 1) (if row = 0 then n else wd) (zuR E row C) := by
          intro q n C er hge dc' hC hk
          obtain ⟨o1, o2, o3, o4, o5⟩ := k1 q n C er
          have hw' : 1 ≤ (if row = 0 then n else wd) ∧ (if row = 0 then n else wd) ≤ 4 ∧ n ≤ (if row = 0 then n else wd) ∧ (if row = 0 then n else wd) ≤ n := by
            split at o3 <;> rename_i h0
            · rw [if_pos h0]; omega
            · rw [if_neg h0] at hge ⊢; omega
          refine ⟨o1, hw'.1, hw'.2.1, zuR_w hE (by
            by_cases h0 : row = 0
            · exact Or.inl h0
            · right; rw [if_neg h0]) o4 o5 hw'.2.2.1, fun i c hi hcw => ?_⟩
          unfold zuR
          by_cases hir : i = row
          · subst hir; rw [if_pos rfl]; exact hC c (by omega)
          · rw [if_neg hir, hk _ (by
              have h0 : ¬ row = 0 := by omega
              rw [if_neg h0] at hcw; omega)]
            have h0 : ¬ row = 0 := by omega
            rw [if_neg h0] at hcw
            exact hCC i c (by omega) hcw
        have st : ∀ q n C, zprw ch r (if row = 0 then 4 else wd) 4 0 p1 (fun _ => (0, 0)) = .inl (q, n, C) → (if n < (if row = 0 then n else wd) then .inr q else if row < 3 ∧ ch q = 59 then zpm ch r f (row + 1) (if row = 0 then n else wd) (q + 1) (zuR E row C)
            else if ch q = 93 then .inl (row + 1, (if row = 0 then n else wd), q + 1, zuR E row C) else .inr q) = zpm ch r 4 0 0 1 zZ := by
          intro q n C er
          rw [er] at eo
          exact eo
        refine b49_31 (by omega) ?_
        rw [zdf3]
        refine ⟨by omega, fun h => (by omega), fun _ => ⟨fun h => (by cases h), fun _ => ⟨fun h => (by cases h), fun _ => ?_⟩⟩⟩
        refine s54 hL hc hl hr hp1 hrow hwd (fun q n C er hge h3 h59 P' dc' hC hk => b49_58 ?_) (fun q n C er hge h59 h93 P' dc' hC hk => b49_58 ?_) (fun x hx P' dc' dp' dw' dx' => b49_58 ?_)
        · obtain ⟨o1, o2, o3, o4, o5⟩ := key q n C er hge dc' hC hk
          have s := st q n C er
          rw [if_neg hge, if_pos ⟨h3, h59⟩] at s
          have := zLe_c hL h59 (by decide)
          exact ih (row + 1) _ (q + 1) (row + 1) _ P' dc' (by omega) (by omega) (by omega) (Or.inr ⟨o2, o3⟩) o4 o5 s
        · obtain ⟨o1, o2, o3, o4, o5⟩ := key q n C er hge dc' hC hk
          have s := st q n C er
          rw [if_neg hge, if_neg h59, if_pos h93] at s
          have := zLe_c hL h93 (by decide)
          exact cl (row + 1) _ (q + 1) _ P' dc' (by omega) (by omega) s.symm o5
        · refine fl x (row + 1) (row + 1) P' dc' dp' dw' dx' (by omega) ?_
          rcases hx with h | ⟨n, C, h, hh⟩
          · rw [h] at eo
            rw [← eo] at ea
            exact ea
          · have s := st x n C h
            by_cases hlt : n < (if row = 0 then n else wd)
            · rw [if_pos hlt] at s
              rw [← s] at ea
              exact ea
            · obtain ⟨g1, g2⟩ := hh.resolve_left hlt
              rw [if_neg hlt, if_neg g1, if_neg g2] at s
              rw [← s] at ea
              exact ea
    refine b49 (s50 hc hl (by omega) (fun _ => b49_26 ?_) (fun h => absurd h91 h))
    exact lp 4 0 0 1 0 zZ P dc (by omega) (by omega) (by omega) (Or.inl rfl) (zZ_0 hr) (fun i c hi => absurd hi (Nat.not_lt_zero i)) rfl
  · have ea : zpa ch yl r = .inr 0 := by unfold zpa; rw [if_neg h91]
    exact b49 (s50 hc hl (by omega) (fun h => absurd h h91) (fun _ => b49_26 (fl 0 0 0 P dc 0 0 false (by omega) ea)))
