/-! TEXTS: what reading keeps; the reference reads rows and matrices -/
theorem zsg_ok {b : Bool} {v k : Nat} (hv : v ≤ k) (hk : k ≤ 1000000000) : -(k : Int) ≤ (zsg b (Int32.ofNat v)).toInt ∧ (zsg b (Int32.ofNat v)).toInt ≤ (k : Int) := by
  unfold zsg
  cases b with
  | false => rw [cond_false, zN_i (by omega)]; omega
  | true => rw [cond_true, zIn (by rw [zN_i (by omega)]; omega), zN_i (by omega)]; omega
theorem zpi_ok {ch : Nat → Int32} (hL : zLe ch) {p : Nat} (hp : p ≤ 120) : (∀ q e, zpi ch p = .inl (q, e) → q ≤ 120 ∧ zok 0 e) ∧ (∀ f, zpi ch p = .inr f → f ≤ 120) := by
  have hpm := zpmi_le hL hp
  unfold zpi
  cases e : zpn ch 10 1000000000 (zpmi ch p) with
  | inr f =>
    refine ⟨fun q e h => (by cases h), fun f' h => ?_⟩
    cases h
    rw [zpn_f e]; exact hpm
  | inl u =>
    refine ⟨fun q e' h => ?_, fun f' h => (by cases h)⟩
    cases h
    obtain ⟨h1, h2⟩ := zpn_ok hL hpm e
    obtain ⟨h3, h4⟩ := zsg_ok (b := decide (ch p = 45)) h2 (by omega)
    exact ⟨h1, h3, h4, rfl⟩
theorem zpg2_ok {ch : Nat → Int32} (hL : zLe ch) {p : Nat} (hp : p < 120) : (∀ q v, zpg2 ch p = .inl (q, v) → q ≤ 120 ∧ v ≤ 30000) ∧ (∀ f, zpg2 ch p = .inr f → f ≤ 120) := by
  unfold zpg2
  split
  · refine ⟨fun q v h => zpn_ok hL (by omega) h, fun f h => ?_⟩
    rw [zpn_f h]; omega
  · refine ⟨fun q v h => ?_, fun f h => (by cases h)⟩
    cases h
    exact ⟨by omega, by omega⟩
theorem zok1_i {x y : Int32} (h1 : -30000 ≤ x.toInt ∧ x.toInt ≤ 30000) (h2 : -30000 ≤ y.toInt ∧ y.toInt ≤ 30000) : zok 1 (x, y) := ⟨h1.1, h1.2, h2.1, h2.2⟩
theorem zpg_ok {ch : Nat → Int32} (hL : zLe ch) {p : Nat} (hp : p ≤ 120) : (∀ q e, zpg ch p = .inl (q, e) → q ≤ 120 ∧ zok 1 e) ∧ (∀ f, zpg ch p = .inr f → f ≤ 120) := by
  have hpm := zpmi_le hL hp
  have z0 : -30000 ≤ (0 : Int32).toInt ∧ (0 : Int32).toInt ≤ 30000 := by decide
  have sg : ∀ (b : Bool) (v : Nat), v ≤ 30000 → -30000 ≤ (zsg b (Int32.ofNat v)).toInt ∧ (zsg b (Int32.ofNat v)).toInt ≤ 30000 := fun b v hv => zsg_ok (k := 30000) hv (by decide)
  unfold zpg
  split
  · rename_i h105
    have := zLe_c hL h105 (by decide)
    refine ⟨fun q e h => ?_, fun f h => (by cases h)⟩
    cases h
    exact ⟨by omega, zok1_i z0 (sg _ 1 (by omega))⟩
  · cases e : zpn ch 5 30000 (zpmi ch p) with
    | inr f =>
      refine ⟨fun q e h => (by cases h), fun f' h => ?_⟩
      cases h
      rw [zpn_f e]; exact hpm
    | inl u =>
      obtain ⟨h1, h2⟩ := zpn_ok hL hpm e
      show (∀ q e, (if ch u.1 = 105 then _ else _) = _ → _) ∧ (∀ f, (if ch u.1 = 105 then _ else _) = _ → _)
      split
      · rename_i h105
        have := zLe_c hL h105 (by decide)
        refine ⟨fun q e h => ?_, fun f h => (by cases h)⟩
        cases h
        exact ⟨by omega, zok1_i z0 (sg _ _ h2)⟩
      · split
        · rename_i h43
          have hu : u.1 < 120 := by
            rcases h43 with h | h
            · exact zLe_c hL h (by decide)
            · exact zLe_c hL h (by decide)
          obtain ⟨k1, k2⟩ := zpg2_ok hL hu
          cases e2 : zpg2 ch u.1 with
          | inr f =>
            refine ⟨fun q e h => (by cases h), fun f' h => ?_⟩
            cases h
            exact k2 _ e2
          | inl u2 =>
            obtain ⟨m1, m2⟩ := k1 _ _ e2
            show (∀ q e, (if ch u2.1 = 105 then _ else _) = _ → _) ∧ (∀ f, (if ch u2.1 = 105 then _ else _) = _ → _)
            split
            · rename_i h105
              have := zLe_c hL h105 (by decide)
              refine ⟨fun q e h => ?_, fun f h => (by cases h)⟩
              cases h
              exact ⟨by omega, zok1_i (sg _ _ h2) (sg _ _ m2)⟩
            · refine ⟨fun q e h => (by cases h), fun f' h => ?_⟩
              cases h
              exact m1
        · refine ⟨fun q e h => ?_, fun f h => (by cases h)⟩
          cases h
          exact ⟨h1, zok1_i (sg _ _ h2) z0⟩
theorem zpx_f {ch : Nat → Int32} (hL : zLe ch) {p f : Nat} (h : zpx ch p = .inr f) : f ≤ 120 := by
  unfold zpx at h
  split at h
  · split at h
    · rename_i h2
      have := zLe_c hL h2 (by decide)
      split at h
      · cases h; omega
      · split at h
        · cases h
        · cases h; omega
    · cases h
  · cases h
theorem zptm_f {ch : Nat → Int32} (hL : zLe ch) {r b p f : Nat} (hp : p ≤ 120) (h : zptm ch r b p = .inr f) : f ≤ 120 := by
  unfold zptm at h
  split at h
  · split at h
    · split at h
      · rename_i hu; cases h; exact zpx_f hL hu
      · split at h
        · cases h; exact hp
        · cases h
    · cases h; exact hp
  · split at h
    · cases h; exact hp
    · split at h
      · rename_i hu; cases h; exact zpx_f hL hu
      · split at h
        · cases h; exact hp
        · cases h
theorem zpp_ok {ch : Nat → Int32} (hL : zLe ch) {r : Nat} (hr : zprm r) : ∀ (n b p : Nat) (F : Nat → Nat), p ≤ 120 → (∀ q e, zpp ch r n b p F = .inl (q, e) → q ≤ 120 ∧ zok r e) ∧ (∀ f, zpp ch r n b p F = .inr f → f ≤ 120)
  | 0, b, p, F, hp => ⟨fun q e h => (by cases h), fun f h => (by cases h; exact hp)⟩
  | n + 1, b, p, F, hp => by
    rw [zpp]
    cases e : zptm ch r b p with
    | inr f => exact ⟨fun q e h => (by cases h), fun f' h => (by cases h; exact zptm_f hL hp e)⟩
    | inl u =>
      obtain ⟨o1, o2, o3, o4⟩ := zptm_ok hL (zprm_lt hr).1 hp e
      show (∀ q e, (if ch u.1 = 43 then _ else _) = _ → _) ∧ (∀ f, (if ch u.1 = 43 then _ else _) = _ → _)
      split
      · rename_i h43
        have := zLe_c hL h43 (by decide)
        exact zpp_ok hL hr n _ _ _ (by omega)
      · refine ⟨fun q e h => ?_, fun f h => (by cases h)⟩
        cases h
        exact ⟨o1, (zok_p hr).mpr ⟨_, zho_lt (by have := zprm_lt hr; omega) _ 8, rfl⟩⟩
theorem zpe_ok {ch : Nat → Int32} (hL : zLe ch) {r p : Nat} (hr : zrg r) (hp : p ≤ 120) : (∀ q e, zpe ch r p = .inl (q, e) → q ≤ 120 ∧ zok r e) ∧ (∀ f, zpe ch r p = .inr f → f ≤ 120) := by
  rcases zrg_c hr with rfl | rfl | hq
  · exact zpi_ok hL hp
  · exact zpg_ok hL hp
  · rw [zpe_p hq]; exact zpp_ok hL hq 9 8 p _ hp
theorem zprw_ok {ch : Nat → Int32} (hL : zLe ch) {r most : Nat} (hr : zrg r) : ∀ (f n p : Nat) (C : zVe), p ≤ 120 → n < most → (∀ c, zok r (C c)) → (∀ c, n ≤ c → C c = (0, 0)) → (∀ q n' C', zprw ch r most f n p C = .inl (q, n', C') → q ≤ 120 ∧ 1 ≤ n' ∧ n' ≤ most ∧ (∀ c, zok r (C' c)) ∧ (∀ c, n' ≤ c → C' c = (0, 0))) ∧ (∀ x, zprw ch r most f n p C = .inr x → x ≤ 120)
  | 0, n, p, C, hp, hn, h1, h2 => ⟨fun q n' C' h => (by cases h), fun x h => (by cases h; exact hp)⟩
  | f + 1, n, p, C, hp, hn, h1, h2 => by
    obtain ⟨k1, k2⟩ := zpe_ok hL hr hp
    rw [zprw]
    cases e : zpe ch r p with
    | inr x => exact ⟨fun q n' C' h => (by cases h), fun x h => (by cases h; exact k2 _ e)⟩
    | inl u =>
      obtain ⟨o1, o2⟩ := k1 u.1 u.2 e
      have w1 : ∀ c, zok r (zvu C n u.2 c) := fun c => by
        unfold zvu; split
        · exact o2
        · exact h1 c
      have w2 : ∀ c, n + 1 ≤ c → zvu C n u.2 c = (0, 0) := fun c hc => by
        unfold zvu
        rw [if_neg (by omega)]
        exact h2 c (by omega)
      show (∀ q n' C', (if n + 1 < most ∧ ch u.1 = 44 then _ else _) = _ → _) ∧ (∀ x, (if n + 1 < most ∧ ch u.1 = 44 then _ else _) = _ → _)
      split
      · rename_i h44
        have := zLe_c hL h44.2 (by decide)
        exact zprw_ok hL hr f (n + 1) (u.1 + 1) _ (by omega) h44.1 w1 w2
      · refine ⟨fun q n' C' h => ?_, fun x h => (by cases h)⟩
        cases h
        exact ⟨o1, by omega, by omega, w1, w2⟩
theorem zuR_w {r row w w' n : Nat} {E : zMe} {C : zVe} (hE : zEw r row w E) (hw : row = 0 ∨ w' = w) (h1 : ∀ c, zok r (C c)) (h2 : ∀ c, n ≤ c → C c = (0, 0)) (hn : n ≤ w') : zEw r (row + 1) w' (zuR E row C) := by
  refine ⟨fun a c => ?_, fun a c hac => ?_⟩
  · unfold zuR; split
    · exact h1 c
    · exact hE.1 a c
  · unfold zuR; split
    · exact h2 c (by omega)
    · exact hE.2 a c (by omega)
theorem zpm_ok {ch : Nat → Int32} (hL : zLe ch) {r : Nat} (hr : zrg r) : ∀ (f row w p : Nat) (E : zMe), p ≤ 120 → row + f = 4 → (row = 0 ∨ (1 ≤ w ∧ w ≤ 4)) → zEw r row w E → (∀ h w' q E', zpm ch r f row w p E = .inl (h, w', q, E') → q ≤ 120 ∧ 1 ≤ h ∧ h ≤ 4 ∧ 1 ≤ w' ∧ w' ≤ 4 ∧ zEw r h w' E') ∧ (∀ x, zpm ch r f row w p E = .inr x → x ≤ 120)
  | 0, row, w, p, E, hp, hf, hw, hE => ⟨fun h w' q E' e => (by cases e), fun x e => (by cases e; exact hp)⟩
  | f + 1, row, w, p, E, hp, hf, hw, hE => by
    have hm : 0 < (if row = 0 then 4 else w) := by split <;> omega
    obtain ⟨k1, k2⟩ := zprw_ok hL hr (most := if row = 0 then 4 else w) 4 0 p (fun _ => (0, 0)) hp hm (fun _ => zok_0 hr) (fun _ _ => rfl)
    rw [zpm]
    cases e : zprw ch r (if row = 0 then 4 else w) 4 0 p (fun _ => (0, 0)) with
    | inr x => exact ⟨fun h w' q E' e => (by cases e), fun x h => (by cases h; exact k2 _ e)⟩
    | inl u =>
      obtain ⟨o1, o2, o3, o4, o5⟩ := k1 u.1 u.2.1 u.2.2 e
      obtain ⟨W, eW, w1, w2⟩ : ∃ W, (if row = 0 then u.2.1 else w) = W ∧ (row = 0 → W = u.2.1) ∧ (row ≠ 0 → W = w) := ⟨_, rfl, fun h => if_pos h, fun h => if_neg h⟩
      show (∀ h w' q E', (if u.2.1 < (if row = 0 then u.2.1 else w) then _ else _) = _ → _) ∧ (∀ x, (if u.2.1 < (if row = 0 then u.2.1 else w) then _ else _) = _ → _)
      rw [eW]
      split
      · exact ⟨fun h w' q E' e => (by cases e), fun x h => (by cases h; exact o1)⟩
      · rename_i hge
        have hw' : 1 ≤ W ∧ W ≤ 4 ∧ u.2.1 ≤ W := by
          by_cases h0 : row = 0
          · rw [if_pos h0] at o3
            have := w1 h0; omega
          · rw [if_neg h0] at o3
            have := w2 h0; omega
        have hE' := zuR_w (w' := W) hE (by
          by_cases h0 : row = 0
          · exact Or.inl h0
          · exact Or.inr (w2 h0)) o4 o5 hw'.2.2
        split
        · rename_i h59
          have := zLe_c hL h59.2 (by decide)
          exact zpm_ok hL hr f (row + 1) _ (u.1 + 1) _ (by omega) (by omega) (Or.inr ⟨hw'.1, hw'.2.1⟩) hE'
        · split
          · rename_i h93
            have := zLe_c hL h93 (by decide)
            refine ⟨fun h w' q E' e => ?_, fun x h => (by cases h)⟩
            cases e
            exact ⟨by omega, by omega, by omega, hw'.1, hw'.2.1, hE'⟩
          · exact ⟨fun h w' q E' e => (by cases e), fun x h => (by cases h; exact o1)⟩
theorem zZ_0 {r w : Nat} (hr : zrg r) : zEw r 0 w zZ := ⟨fun _ _ => zok_0 hr, fun _ _ _ => rfl⟩
theorem zpa_ok {ch : Nat → Int32} (hL : zLe ch) {r l : Nat} (hr : zrg r) : (∀ h w E, zpa ch l r = .inl (h, w, E) → zsh r h w ∧ zEw r h w E) ∧ (∀ f, zpa ch l r = .inr f → f ≤ 120) := by
  obtain ⟨k1, k2⟩ := zpm_ok hL hr 4 0 0 1 zZ (by omega) (by omega) (Or.inl rfl) (zZ_0 hr)
  unfold zpa
  split
  · cases e : zpm ch r 4 0 0 1 zZ with
    | inr f => exact ⟨fun h w E e => (by cases e), fun f h => (by cases h; exact k2 _ e)⟩
    | inl u =>
      obtain ⟨o1, o2, o3, o4, o5, o6⟩ := k1 u.1 u.2.1 u.2.2.1 u.2.2.2 e
      show (∀ h w E, (if u.2.2.1 < l then _ else _) = _ → _) ∧ (∀ f, (if u.2.2.1 < l then _ else _) = _ → _)
      split
      · exact ⟨fun h w E e => (by cases e), fun f h => (by cases h; exact o1)⟩
      · refine ⟨fun h w E e => ?_, fun f h => (by cases h)⟩
        cases e
        exact ⟨⟨hr, o2, o3, o4, o5⟩, o6⟩
  · exact ⟨fun h w E e => (by cases e), fun f h => (by cases h; omega)⟩
/-- readsRow -/
theorem s230 {K : zKt} {code rf rs pr pn : Int32} {bad : Bool} {len om : Nat} {m pa pb pc vf vs tx ou : Nat → Int32} {w : Nat → Int64} {p : Nat × Nat} {Q : zR → zH → Prop} {ch : Nat → Int32} {r p0 row wd : Nat} {ef es : Int32} {rd : Nat → Int32} (hL : zLe ch) (hc : ∀ p, zch tx len p = ch p) (hl : len ≤ 120) (hr : zrg r) (hp : p0 ≤ 120) (hrow : row < 4) (hw : row = 0 ∨ (1 ≤ wd ∧ wd ≤ 4))
    (H1 : ∀ q n C, zprw ch r (if row = 0 then 4 else wd) 4 0 p0 (fun _ => (0, 0)) = .inl (q, n, C) → ¬ n < (if row = 0 then n else wd) → ch q ≠ 44 → ∀ ef' es' rd', (∀ c, c < n → rd' (8 * row + 2 * c) = (C c).1 ∧ rd' (8 * row + 2 * c + 1) = (C c).2) → (∀ k, k < 8 * row → rd' k = rd k) → Q (.inl none) (zh K (code, rf, rs, bad, pr, pn, len, q, true, ef', es', (row + 1), (if row = 0 then n else wd), om) (m, pa, pb, pc, vf, vs, tx, rd', ou) w))
    (H2 : ∀ f, (zprw ch r (if row = 0 then 4 else wd) 4 0 p0 (fun _ => (0, 0)) = .inr f ∨ ∃ n C, zprw ch r (if row = 0 then 4 else wd) 4 0 p0 (fun _ => (0, 0)) = .inl (f, n, C) ∧ (n < (if row = 0 then n else wd) ∨ ch f = 44)) → ∀ ef' es' rd' rc', Q (.inl none) (zh K (code, rf, rs, bad, pr, pn, len, f, false, ef', es', (row + 1), rc', om) (m, pa, pb, pc, vf, vs, tx, rd', ou) w)) :
    zT zm_230 [.ref 75, .int (Int32.ofNat r)] p (zh K (code, rf, rs, bad, pr, pn, len, p0, true, ef, es, row, wd, om) (m, pa, pb, pc, vf, vs, tx, rd, ou) w) Q := by
  have f158 : ∀ (f n : Nat) (ef es : Int32) (rd : Nat → Int32), n ≤ 4 → (zprw ch r (if row = 0 then 4 else wd) 4 0 p0 (fun _ => (0, 0)) = .inr f ∨ ∃ n C, zprw ch r (if row = 0 then 4 else wd) 4 0 p0 (fun _ => (0, 0)) = .inl (f, n, C) ∧ (n < (if row = 0 then n else wd) ∨ ch f = 44)) → zW zm_230 158 [some (.ref 75), none, some (.int (Int32.ofNat n)), none, none] [] p (zh K (code, rf, rs, bad, pr, pn, len, f, false, ef, es, row, wd, om) (m, pa, pb, pc, vf, vs, tx, rd, ou) w) Q := by
    intro f n ef es rd hn hf
    exact b230_158 ⟨by omega, fun h0 => ⟨by omega, by omega, fun _ => H2 f hf _ _ _ _, fun _ => H2 f hf _ _ _ _⟩, fun h0 => ⟨by omega, fun _ => H2 f hf _ _ _ _, fun _ => H2 f hf _ _ _ _⟩⟩
  generalize hm : (if row = 0 then 4 else wd) = most at *
  have hm4 : 1 ≤ most ∧ most ≤ 4 := by rw [← hm]; split <;> omega
  have lp : ∀ (f n p1 : Nat) (C : zVe) (ef es : Int32) (rd1 : Nat → Int32), n + f = 4 → n < most → p1 ≤ 120 → (∀ c, c < n → rd1 (8 * row + 2 * c) = (C c).1 ∧ rd1 (8 * row + 2 * c + 1) = (C c).2) → (∀ k, k < 8 * row → rd1 k = rd k) → zprw ch r most f n p1 C = zprw ch r most 4 0 p0 (fun _ => (0, 0)) →
      zW zm_230 21 [some (.ref 75), some (.int (Int32.ofNat r)), some (.int (Int32.ofNat n)), some (.int (Int32.ofNat 1)), some (.int (Int32.ofNat most))] [] p (zh K (code, rf, rs, bad, pr, pn, len, p1, true, ef, es, row, wd, om) (m, pa, pb, pc, vf, vs, tx, rd1, ou) w) Q := by
    intro f
    induction f with
    | zero => intro n p1 C ef es rd1 hn hnm; omega
    | succ f ih =>
      intro n p1 C ef es rd1 hn hnm hp1 hC hk eo
      rw [zprw] at eo
      refine b230_21 ⟨by omega, fun h => (by omega), fun _ => ⟨fun h => (by cases h), fun _ => ?_⟩⟩
      refine s231 hL hc hl hr hp1 (fun q e ee => b230_37 ?_) (fun x ee ef' es' => b230_37 ⟨fun _ => ⟨fun _ => ?_, fun h => (by cases h)⟩, fun h => (by cases h)⟩)
      · rw [ee] at eo
        have eo : (if n + 1 < most ∧ ch q = 44 then zprw ch r most f (n + 1) (q + 1) (zvu C n e) else .inl (q, n + 1, zvu C n e)) = _ := eo
        have hq := ((zpe_ok hL hr hp1).1 q e ee).1
        have hC' : ∀ c, c < n + 1 → va_up (va_up rd1 (8 * row + 2 * n) e.1) (8 * row + 2 * n + 1) e.2 (8 * row + 2 * c) = (zvu C n e c).1 ∧ va_up (va_up rd1 (8 * row + 2 * n) e.1) (8 * row + 2 * n + 1) e.2 (8 * row + 2 * c + 1) = (zvu C n e c).2 := by
          intro c hcn
          unfold zvu
          by_cases h : c = n
          · subst h; rw [zu2_0, zu2_1, if_pos rfl]; exact ⟨rfl, rfl⟩
          · rw [zu2_n (by omega) (by omega), zu2_n (by omega) (by omega), if_neg h]; exact hC c (by omega)
        have hk' : ∀ k, k < 8 * row → va_up (va_up rd1 (8 * row + 2 * n) e.1) (8 * row + 2 * n + 1) e.2 k = rd k := fun k hkk => by rw [zu2_n (by omega) (by omega)]; exact hk k hkk
        rw [zhere_c hc (by decide)]
        refine ⟨fun h => (by cases h), fun _ => ⟨by omega, by omega, fun h => (by cases h), fun _ => ⟨hl, by omega, fun n44 => ?_, fun h44 => ?_⟩⟩⟩
        · have n44 := of_decide_eq_false n44
          rw [if_neg (fun h => n44 h.2)] at eo
          refine b230_110 ⟨by omega, fun _ => ⟨fun _ => ?_, fun h => absurd rfl h⟩, fun h => absurd rfl h⟩
          refine b230_21 ⟨by omega, fun _ => ?_, fun h => absurd rfl h⟩
          by_cases h0 : row = 0
          · refine b230_158 ⟨by omega, fun h => absurd h0 h, fun _ => ⟨by omega, fun h => absurd rfl h, fun _ => ?_⟩⟩
            have := H1 q (n + 1) (zvu C n e) eo.symm (by rw [if_pos h0]; omega) n44 e.1 e.2 _ hC' hk'
            rw [if_pos h0] at this
            exact this
          · refine b230_158 ⟨by omega, fun _ => ⟨by omega, by omega, fun hne => ?_, fun heq => ?_⟩, fun h => absurd h h0⟩
            · refine H2 q (Or.inr ⟨n + 1, zvu C n e, eo.symm, Or.inl ?_⟩) _ _ _ _
              rw [if_neg h0]
              rw [if_neg h0] at hm
              omega
            · have := H1 q (n + 1) (zvu C n e) eo.symm (by rw [if_neg h0]; omega) n44 e.1 e.2 _ hC' hk'
              rw [if_neg h0] at this
              exact this
        · have h44 := of_decide_eq_true h44
          have q120 := zLe_c hL h44 (by decide)
          refine b230_110 ⟨by omega, fun h => (by omega), fun _ => ⟨by omega, by omega, fun hge => ⟨fun h => (by omega), fun _ => ⟨fun _ => ?_, fun h => (by cases h)⟩⟩, fun hlt => ⟨fun h => (by omega), fun _ => ⟨fun h => (by cases h), fun _ => ?_⟩⟩⟩⟩
          · rw [if_neg (by omega)] at eo
            exact b230_21 ⟨by omega, fun h => (by omega), fun _ => ⟨fun _ => f158 q (n + 1) _ _ _ (by omega) (Or.inr ⟨n + 1, zvu C n e, eo.symm, Or.inr h44⟩), fun h => (by cases h)⟩⟩
          · rw [if_pos ⟨hlt, h44⟩] at eo
            exact ih (n + 1) (q + 1) (zvu C n e) e.1 e.2 _ (by omega) hlt (by omega) hC' hk' eo
      · rw [ee] at eo
        refine b230_110 ⟨by omega, fun _ => ⟨fun _ => ?_, fun h => absurd rfl h⟩, fun h => absurd rfl h⟩
        exact b230_21 ⟨by omega, fun _ => f158 x n _ _ _ (by omega) (Or.inl eo.symm), fun h => absurd rfl h⟩
  refine b230 ⟨by omega, fun h0 => ?_, fun h0 => ?_⟩
  · rw [if_neg h0] at hm
    have g := lp 4 0 p0 _ ef es rd (by omega) (by omega) hp (fun c hc => absurd hc (Nat.not_lt_zero c)) (fun _ _ => rfl) rfl
    rw [← hm] at g
    exact g
  · rw [if_pos h0] at hm
    have g := lp 4 0 p0 _ ef es rd (by omega) (by omega) hp (fun c hc => absurd hc (Nat.not_lt_zero c)) (fun _ _ => rfl) rfl
    rw [← hm] at g
    exact g
def zRR (rd : Nat → Int32) (row w : Nat) (E : zMe) : Prop := ∀ i c, i < row → c < w → rd (8 * i + 2 * c) = (E i c).1 ∧ rd (8 * i + 2 * c + 1) = (E i c).2
/-- readsAll -/
theorem s227 {K : zKt} {code rf rs pr pn ef es : Int32} {bad fin : Bool} {len plc rr rc om : Nat} {m pa pb pc vf vs tx rd ou : Nat → Int32} {w : Nat → Int64} {p : Nat × Nat} {Q : zR → zH → Prop} {ch : Nat → Int32} {r : Nat} (hL : zLe ch) (hc : ∀ p, zch tx len p = ch p) (hl : len ≤ 120) (hr : zrg r)
    (H1 : ∀ h wd E, zpa ch len r = .inl (h, wd, E) → ∀ plc' ef' es' rd', zRR rd' h wd E → Q (.inl (some (.int 1))) (zh K (code, rf, rs, bad, pr, pn, len, plc', true, ef', es', h, wd, om) (m, pa, pb, pc, vf, vs, tx, rd', ou) w))
    (H2 : ∀ f, zpa ch len r = .inr f → ∀ rr' rc' ef' es' rd', Q (.inl (some (.int 0))) (zh K (code, rf, rs, bad, pr, pn, len, f, false, ef', es', rr', rc', om) (m, pa, pb, pc, vf, vs, tx, rd', ou) w)) : zT zm_227 [.ref 75, .int (Int32.ofNat r)] p (zh K (code, rf, rs, bad, pr, pn, len, plc, fin, ef, es, rr, rc, om) (m, pa, pb, pc, vf, vs, tx, rd, ou) w) Q := by
  have fl : ∀ (f rr rc : Nat) (ef es : Int32) (rd : Nat → Int32), f ≤ 120 → zpa ch len r = .inr f → zW zm_227 56 [some (.ref 75), some (.int (Int32.ofNat r)), some (.int (zbi false))] [] p (zh K (code, rf, rs, bad, pr, pn, len, f, false, ef, es, rr, rc, om) (m, pa, pb, pc, vf, vs, tx, rd, ou) w) Q := by
    intro f rr rc ef es rd h120 hf
    refine b227_56 ⟨fun _ => ⟨hl, by omega, fun _ => ⟨by omega, by omega, fun _ => H2 f hf _ _ _ _ _, fun _ => H2 f hf _ _ _ _ _⟩, fun h => (by cases h)⟩, fun h => (by cases h)⟩
  have f65 : ∀ (f rr rc : Nat) (ef es : Int32) (rd : Nat → Int32), f ≤ 120 → rr ≤ 4 → zpa ch len r = .inr f → zW zm_227 65 [some (.ref 75), some (.int (Int32.ofNat r)), none] [] p (zh K (code, rf, rs, bad, pr, pn, len, f, false, ef, es, rr, rc, om) (m, pa, pb, pc, vf, vs, tx, rd, ou) w) Q := by
    intro f rr rc ef es rd h120 hrr hf
    refine b227_65 ⟨fun _ => b227_86 (s0 := false) ⟨by omega, fun _ => ⟨fun _ => b227_124 (s0 := false) ⟨fun _ => fl f rr rc ef es rd h120 hf, fun h => (by cases h)⟩, fun h => (by cases h)⟩, fun _ => ⟨fun h => (by cases h), fun _ => ⟨fun _ => b227_124 (s0 := false) ⟨fun _ => fl f rr rc ef es rd h120 hf, fun h => (by cases h)⟩, fun h => (by cases h)⟩⟩⟩, fun h => (by cases h)⟩
  by_cases h91 : ch 0 = 91
  · have ea : zpa ch len r = match zpm ch r 4 0 0 1 zZ with
        | .inr f => .inr f
        | .inl q => if q.2.2.1 < len then .inr q.2.2.1 else .inl (q.1, q.2.1, q.2.2.2) := by unfold zpa; rw [if_pos h91]; rfl
    have lp : ∀ (f row wd p1 : Nat) (E : zMe) (ef es : Int32) (rd : Nat → Int32), row + f = 4 → row < 4 → p1 ≤ 120 → (row = 0 ∨ (1 ≤ wd ∧ wd ≤ 4)) → zEw r row wd E → zRR rd row wd E → zpm ch r f row wd p1 E = zpm ch r 4 0 0 1 zZ → zW zm_227 56 [some (.ref 75), some (.int (Int32.ofNat r)), some (.int (zbi true))] [] p (zh K (code, rf, rs, bad, pr, pn, len, p1, true, ef, es, row, wd, om) (m, pa, pb, pc, vf, vs, tx, rd, ou) w) Q := by
      intro f
      induction f with
      | zero => intro row wd p1 E ef es rd h1 h2; omega
      | succ f ih =>
        intro row wd p1 E ef es rd hf hrow hp1 hwd hE hRR eo
        have hm : 0 < (if row = 0 then 4 else wd) := by split <;> omega
        obtain ⟨k1, k2⟩ := zprw_ok hL hr (most := if row = 0 then 4 else wd) 4 0 p1 (fun _ => (0, 0)) hp1 hm (fun _ => zok_0 hr) (fun _ _ => rfl)
        rw [zpm] at eo
        refine b227_56 ⟨fun h => (by cases h), fun _ => s230 hL hc hl hr hp1 hrow hwd (fun q n C er hge n44 ef' es' rd' hC hk => ?_) (fun x hx ef' es' rd' rc' => ?_)⟩
        · obtain ⟨o1, o2, o3, o4, o5⟩ := k1 q n C er
          rw [er] at eo
          have eo : (if n < (if row = 0 then n else wd) then .inr q else if row < 3 ∧ ch q = 59 then zpm ch r f (row + 1) (if row = 0 then n else wd) (q + 1) (zuR E row C)
            else if ch q = 93 then .inl (row + 1, (if row = 0 then n else wd), q + 1, zuR E row C) else .inr q) = _ := eo
          rw [if_neg hge] at eo
          have hw' : 1 ≤ (if row = 0 then n else wd) ∧ (if row = 0 then n else wd) ≤ 4 ∧ n ≤ (if row = 0 then n else wd) ∧ (if row = 0 then n else wd) ≤ n := by
            split at o3 <;> rename_i h0
            · rw [if_pos h0]; omega
            · rw [if_neg h0] at hge ⊢; omega
          have hE' := zuR_w (w' := if row = 0 then n else wd) hE (by
            by_cases h0 : row = 0
            · exact Or.inl h0
            · right; rw [if_neg h0]) o4 o5 hw'.2.2.1
          have hRR' : zRR rd' (row + 1) (if row = 0 then n else wd) (zuR E row C) := by
            intro i c hi hcw
            unfold zuR
            by_cases hir : i = row
            · subst hir; rw [if_pos rfl]; exact hC c (by omega)
            · rw [if_neg hir, hk _ (by omega), hk _ (by omega)]
              have h0 : ¬ row = 0 := by omega
              rw [if_neg h0] at hcw
              exact hRR i c (by omega) hcw
          generalize (if row = 0 then n else wd) = w' at *
          have end93 : ¬ (row < 3 ∧ ch q = 59) → zW zm_227 56 [some (.ref 75), some (.int (Int32.ofNat r)), some (.int (zbi false))] [] p (zh K (code, rf, rs, bad, pr, pn, len, q, true, ef', es', (row + 1), w', om) (m, pa, pb, pc, vf, vs, tx, rd', ou) w) Q := by
            intro h59
            rw [if_neg h59] at eo
            refine b227_56 ?_
            rw [zhere_c hc (by decide), Bool.true_and]
            refine ⟨fun _ => ⟨hl, by omega, fun h => ?_, fun h => ?_⟩, fun h => (by cases h)⟩
            · rw [if_neg (of_decide_eq_false h)] at eo
              rw [← eo] at ea
              rw [h]
              exact ⟨by omega, by omega, fun _ => H2 q ea _ _ _ _ _, fun _ => H2 q ea _ _ _ _ _⟩
            · have h93 := of_decide_eq_true h
              rw [if_pos h93] at eo
              rw [← eo] at ea
              have ea : zpa ch len r = if q + 1 < len then .inr (q + 1) else .inl (row + 1, w', zuR E row C) := ea
              have hq := (ztx_c hc h93 (by decide)).1
              rw [h]
              refine ⟨by omega, by omega, fun hne => ?_, fun heq => ?_⟩
              · rw [if_pos (by omega)] at ea
                exact H2 (q + 1) ea _ _ _ _ _
              · rw [if_neg (by omega)] at ea
                exact H1 _ _ _ ea _ _ _ _ hRR'
          refine b227_65 ?_
          rw [zhere_c hc (by decide)]
          refine ⟨fun h => (by cases h), fun _ => ⟨hl, by omega, fun n59 => ?_, fun h59 => ?_⟩⟩
          · have h := end93 (fun h => of_decide_eq_false n59 h.2)
            refine b227_86 (s0 := false) ⟨by omega, fun _ => ⟨fun _ => b227_124 (s0 := false) ⟨fun _ => h, fun h => (by cases h)⟩, fun h => (by cases h)⟩, fun _ => ⟨fun h => (by cases h), fun _ => ⟨fun _ => b227_124 (s0 := false) ⟨fun _ => h, fun h => (by cases h)⟩, fun h => (by cases h)⟩⟩⟩
          · have h59' := of_decide_eq_true h59
            have q120 := zLe_c hL h59' (by decide)
            refine b227_86 (s0 := true) ⟨by omega, fun hlt => ⟨fun h => (by cases h), fun _ => ⟨fun h => (by cases h), fun _ => b227_124 (s0 := true) ⟨fun h => (by cases h), fun _ => ?_⟩⟩⟩, fun hge4 => ⟨fun _ => ⟨fun h => (by cases h), fun _ => ⟨fun _ => b227_124 (s0 := false) ⟨fun _ => ?_, fun h => (by cases h)⟩, fun h => (by cases h)⟩⟩, fun h => (by cases h)⟩⟩
            · rw [if_pos ⟨by omega, h59'⟩] at eo
              exact ih (row + 1) w' (q + 1) (zuR E row C) ef' es' rd' (by omega) (by omega) (by omega) (Or.inr ⟨hw'.1, hw'.2.1⟩) hE' hRR' eo
            · rw [if_neg (by omega), if_neg (by rw [h59']; decide)] at eo
              rw [← eo] at ea
              exact fl q _ _ _ _ _ o1 ea
        · have hx120 : x ≤ 120 := by
            rcases hx with h | ⟨n, C, h, _⟩
            · exact k2 x h
            · exact (k1 x n C h).1
          refine f65 x (row + 1) rc' ef' es' rd' hx120 (by omega) ?_
          rcases hx with h | ⟨n, C, h, hh⟩
          · rw [h] at eo
            rw [← eo] at ea
            exact ea
          · rw [h] at eo
            have eo : (if n < (if row = 0 then n else wd) then .inr x else if row < 3 ∧ ch x = 59 then zpm ch r f (row + 1) (if row = 0 then n else wd) (x + 1) (zuR E row C)
              else if ch x = 93 then .inl (row + 1, (if row = 0 then n else wd), x + 1, zuR E row C) else .inr x) = _ := eo
            by_cases hlt : n < (if row = 0 then n else wd)
            · rw [if_pos hlt] at eo
              rw [← eo] at ea
              exact ea
            · have h44 : ch x = 44 := hh.resolve_left hlt
              rw [if_neg hlt, if_neg (by rw [h44]; exact fun g => absurd g.2 (by decide)), if_neg (by rw [h44]; decide)] at eo
              rw [← eo] at ea
              exact ea
    refine b227 ?_
    rw [zhere_c hc (by decide), decide_eq_true h91]
    exact ⟨hl, by omega, fun h => (by cases h), fun _ => lp 4 0 0 1 zZ ef es rd (by omega) (by omega) (by omega) (Or.inl rfl) (zZ_0 hr) (fun i c hi => absurd hi (Nat.not_lt_zero i)) rfl⟩
  · have ea : zpa ch len r = .inr 0 := by unfold zpa; rw [if_neg h91]
    refine b227 ?_
    rw [zhere_c hc (by decide), decide_eq_false h91]
    exact ⟨hl, by omega, fun _ => fl 0 0 0 ef es rd (by omega) ea, fun h => (by cases h)⟩
