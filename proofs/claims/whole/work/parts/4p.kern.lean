/-! KERNEL -/
def zuv (k : Nat) : zVe := fun i => if i = k then (1, 0) else (0, 0)
def zke (t u : Nat) : zMe := fun a c => if a = t + c ∧ c < u then (1, 0) else (0, 0)
def zc_kern (S : zSs) (a0 a1 : Int32) : (Int32 ⊕ Nat) × zSs := if zslot a0 = false ∨ zslot a1 = false then (.inr 0, S) else match S (znn a0) with
  | none => (.inr 1, S)
  | some X => match zfS (zfr0 X) with
    | none => (.inr 3, S)
    | some q => if q.1 = X.2.2.1 then (.inl 0, S) else match zmb X.1 X.2.2.1 (X.2.2.1 - q.1) q.2.2.2 q.2.1 (zke q.1 (X.2.2.1 - q.1)) with
      | none => (.inr 3, S)
      | some E => (.inl (Int32.ofNat (X.2.2.1 - q.1)), zup S (znn a1) (X.1, X.2.2.1, X.2.2.1 - q.1, E, (0, E, zg0)))
theorem zke_c {t u c : Nat} (hc : c < u) : (fun k => zke t u k c) = zuv (t + c) := by
  funext k
  unfold zke zuv
  by_cases h : k = t + c
  · rw [if_pos ⟨h, hc⟩, if_pos h]
  · rw [if_neg (fun g => h g.1), if_neg h]
theorem zke_w {r d t : Nat} (hr : zrg r) : zEw r d (d - t) (zke t (d - t)) := by
  refine ⟨fun a c => ?_, fun a c hac => ?_⟩
  · unfold zke
    split
    · exact zok_1 hr
    · exact zok_0 hr
  · unfold zke
    rw [if_neg (by omega)]
theorem zmb_w {r h d u : Nat} (hr : zrg r) {g : Nat → zSt} : ∀ (n : Nat) (E E' : zMe), (∀ k, k < n → zsv r h d (g k)) → zEw r d u E → zmb r d u g n E = some E' → zEw r d u E'
  | 0, E, E', _, hE, e => by cases e; exact hE
  | n + 1, E, E', hg, hE, e => by
    rw [zmb] at e
    obtain ⟨E1, e1, e2⟩ := Option.bind_eq_some_iff.mp e
    refine zmb_w hr n E1 E' (fun k hk => hg k (by omega)) ?_ e2
    by_cases hk : zkc (g n) = true
    · rw [if_pos hk] at e1
      exact zap_w hr hE (zsr_v (hg n (by omega)) hk) e1
    · rw [if_neg hk] at e1
      cases e1; exact hE
/-- what the reference's columns keep -/
def zKI (m0 m : Nat → Int32) (bad : Bool) (r d u t n : Nat) (g : Nat → zSt) (c : Nat) : Prop := zfr 4272 m0 m ∧ zRh m 4272 r d u ∧ (bad = false → ∀ c', c' < c → ∃ V, zvb r g n (zuv (t + c')) = some V ∧ ∀ a, a < d → m (4276 + 8 * a + 2 * c') = (V a).1 ∧ m (4276 + 8 * a + 2 * c' + 1) = (V a).2) ∧ (bad = true → ∃ c', c' < c ∧ zvb r g n (zuv (t + c')) = none) ∧ (∀ a c', a < 4 → c' < 4 → ¬ (a < d ∧ c' < c) → m (4276 + 8 * a + 2 * c') = 0 ∧ m (4276 + 8 * a + 2 * c' + 1) = 0)
/-- a column's places -/
def zKJ (m1 m : Nat → Int32) (vf vs : Nat → Int32) (c x : Nat) : Prop := (∀ a, a < x → m (4276 + 8 * a + 2 * c) = vf a ∧ m (4276 + 8 * a + 2 * c + 1) = vs a) ∧ (∀ k, (∀ a, a < x → k ≠ 4276 + 8 * a + 2 * c ∧ k ≠ 4276 + 8 * a + 2 * c + 1) → m k = m1 k)
theorem zKJ_s {m1 m vf vs : Nat → Int32} {c x : Nat} (hc : c < 4) (h : zKJ m1 m vf vs c x) : zKJ m1 (va_up (va_up m (4276 + 8 * x + 2 * c) (vf x)) (4276 + 8 * x + 2 * c + 1) (vs x)) vf vs c (x + 1) := by
  refine ⟨fun a ha => ?_, fun k hk => ?_⟩
  · by_cases hax : a = x
    · subst hax; rw [zu2_0, zu2_1]; exact ⟨rfl, rfl⟩
    · rw [zu2_n (by omega) (by omega), zu2_n (by omega) (by omega)]; exact h.1 a (by omega)
  · obtain ⟨k1, k2⟩ := hk x (by omega)
    rw [zu2_n k1 k2]
    exact h.2 k (fun a ha => hk a (by omega))
theorem zKI_s {m0 m1 m2 : Nat → Int32} {bad bad' : Bool} {r d u t n c : Nat} {g : Nat → zSt} {vf vs : Nat → Int32} (hd : d ≤ 4) (hu : u ≤ 4) (hc : c < u) (hI : zKI m0 m1 bad r d u t n g c) (hJ : zKJ m1 m2 vf vs c d) (hV : zVB r vf vs bad' ((bif bad then none else some (zuv (t + c))).bind (zvb r g n))) : zKI m0 m2 bad' r d u t n g (c + 1) := by
  obtain ⟨i1, i2, i3, i4, i5⟩ := hI
  have far : ∀ k, (k < 4276 ∨ 4308 ≤ k) → m2 k = m1 k := fun k hk => hJ.2 k (fun a ha => by omega)
  have oth : ∀ a c', c' < 4 → c' ≠ c → m2 (4276 + 8 * a + 2 * c') = m1 (4276 + 8 * a + 2 * c') ∧ m2 (4276 + 8 * a + 2 * c' + 1) = m1 (4276 + 8 * a + 2 * c' + 1) := fun a c' hc' hne => ⟨hJ.2 _ (fun b hb => by omega), hJ.2 _ (fun b hb => by omega)⟩
  refine ⟨fun k hk => (far k (by omega)).trans (i1 k hk), zRh_eq (fun k _ _ => far k (by omega)) i2, fun hb c' hc' => ?_, fun hb => ?_, fun a c' ha hc' hn => ?_⟩
  · cases bad with
    | true => exact absurd (show bad' = true from hV.2) (by rw [hb]; decide)
    | false =>
      by_cases hcc : c' = c
      · subst hcc
        have hV2 := hV.2
        rw [cond_false, Option.bind_some] at hV2
        cases ez : zvb r g n (zuv (t + c')) with
        | none => rw [ez] at hV2; exact absurd (show bad' = true from hV2) (by rw [hb]; decide)
        | some V =>
          rw [ez] at hV2
          refine ⟨V, rfl, fun a ha => ?_⟩
          rw [(hJ.1 a ha).1, (hJ.1 a ha).2, hV2.2 a (by omega)]
          exact ⟨rfl, rfl⟩
      · obtain ⟨V, eV, hV3⟩ := i3 rfl c' (by omega)
        refine ⟨V, eV, fun a ha => ?_⟩
        rw [(oth a c' (by omega) hcc).1, (oth a c' (by omega) hcc).2]
        exact hV3 a ha
  · cases bad with
    | true =>
      obtain ⟨c', h1, h2⟩ := i4 rfl
      exact ⟨c', by omega, h2⟩
    | false =>
      refine ⟨c, by omega, ?_⟩
      have hV2 := hV.2
      rw [cond_false, Option.bind_some] at hV2
      cases ez : zvb r g n (zuv (t + c)) with
      | none => rfl
      | some V => rw [ez] at hV2; rw [hV2.1] at hb; cases hb
  · by_cases hcc : c' = c
    · subst hcc
      rw [hJ.2 _ (fun b hb => by omega), hJ.2 _ (fun b hb => by omega)]
      exact i5 a c' ha hc' (by omega)
    · rw [(oth a c' hc' hcc).1, (oth a c' hc' hcc).2]
      exact i5 a c' ha hc' (by omega)
theorem r_kern {K : zKt} {code rf rs pr pn : Int32} {bad : Bool} {J : zJt} {m pa pb pc vf vs : Nat → Int32} {B : zBt} {w : Nat → Int64} {p : Nat × Nat} {Q : zR → zH → Prop} {S : zSs} {a0 a1 : Int32} (hw : zSw S) (hR : zRS m S) (H : ∀ m' h', zRS m' (zc_kern S a0 a1).2 → zRH K J B w m' (zcd [0, 1, 3] (zc_kern S a0 a1).1) h' → Q (.inl (some (.int (zrv (zc_kern S a0 a1).1)))) h') : zT zm_211 [.ref 75, .int a0, .int a1] p (zh K (code, rf, rs, bad, pr, pn, J) (m, pa, pb, pc, vf, vs, B) w) Q := by
  have bad0 : (zslot a0 = false ∨ zslot a1 = false) → Q (.inl (some (.int (0 : Int32)))) (zh K ((1 : Int32), rf, rs, bad, pr, pn, J) (m, pa, pb, pc, vf, vs, B) w) := fun c => zfin (S := S) (x := .inr 0) (S' := S) H (by rw [zc_kern, if_pos c]) m _ hR ⟨_, _, _, _, _, _, _, _, _, _, rfl⟩
  refine b211 ⟨fun c0 => bad0 (Or.inl c0), fun c0 k0 hk0 ek0 => ⟨fun c1 k1 hk1 ek1 => ⟨by omega, fun c => ?_, fun c => ?_⟩, fun c1 => bad0 (Or.inr c1)⟩⟩
  · obtain ⟨X, e⟩ := zRS_s hR hw hk0 c
    have hX := hw k0 X hk0 e
    have h1 := hX.1.2.2.1
    have h2 := hX.1.2.2.2.2
    have h5 := hX.1.2.2.2.1
    have ex : zc_kern S a0 a1 = match zfS (zfr0 X) with
      | none => (.inr 3, S)
      | some q => if q.1 = X.2.2.1 then (.inl 0, S) else match zmb X.1 X.2.2.1 (X.2.2.1 - q.1) q.2.2.2 q.2.1 (zke q.1 (X.2.2.1 - q.1)) with
        | none => (.inr 3, S)
        | some E => (.inl (Int32.ofNat (X.2.2.1 - q.1)), zup S k1 (X.1, X.2.2.1, X.2.2.1 - q.1, E, (0, E, zg0))) := by
      rw [zc_kern, if_neg (by rw [c0, c1]; decide), ek0, ek1, znn_o (by omega), znn_o (k := k1) (by omega), e]
    refine s208 hw hR hk0 e (fun t τ eτ rf1 rs1 pa1 pb1 pc1 pr' pn' m1 f1 hb1 hw1 => b211_44 ⟨fun _ => ?_, fun h => (by cases h)⟩) (fun eτ rv rf1 rs1 pa1 pb1 pc1 pr' pn' m1 f1 => b211_44 ⟨fun h => (by cases h), fun _ => ?_⟩)
    · have hR1 := zRS_fr hR hw f1 (by omega)
      obtain ⟨_, w2, w3, w4, _⟩ := zfS_w hX eτ
      have hc : τ.1 ≤ 200 := hw1.1
      rw [eτ] at ex
      rw [show m1 3206 = Int32.ofNat X.2.2.1 from hb1.1.2.2, show m1 3204 = Int32.ofNat X.1 from hb1.1.1, zN_e (by omega) (by omega), show Int32.ofNat X.2.2.1 - Int32.ofNat t = Int32.ofNat (X.2.2.1 - t) from zN_sb rfl rfl w3]
      refine ⟨fun hne => ?_, fun heq => ?_⟩
      · have ex : zc_kern S a0 a1 = match zmb X.1 X.2.2.1 (X.2.2.1 - t) τ.2.2 τ.1 (zke t (X.2.2.1 - t)) with
          | none => (.inr 3, S)
          | some E => (.inl (Int32.ofNat (X.2.2.1 - t)), zup S k1 (X.1, X.2.2.1, X.2.2.1 - t, E, (0, E, zg0))) := ex.trans (if_neg hne)
        refine s145 (β := 4272) (r := X.1) (h := X.2.2.1) (d := X.2.2.1 - t) (by omega) (fun m2 q1 q2 => b211_97 ?_)
        have z2 := q2 zg0
        have hb2 : zRb m2 3204 X.1 X.2.1 X.2.2.1 X.2.2.2.2.2.1 τ := zRb_fr q1 (by omega) hw1.1 hb1
        obtain ⟨cc1, cc2⟩ := zmb_c (u := X.2.2.1 - t) τ.1 (zke t (X.2.2.1 - t)) hw1.2.2.2.1
        have lp : ∀ (n c : Nat) (rf rs : Int32) (pa pb pc vf vs m3 : Nat → Int32) (bad : Bool), c + n = X.2.2.1 - t → zKI m2 m3 bad X.1 X.2.2.1 (X.2.2.1 - t) t τ.1 τ.2.2 c →
            zW zm_211 100 [some (.ref 75), none, some (.int (Int32.ofNat k1)), some (.int (Int32.ofNat t)), some (.int (Int32.ofNat X.2.2.1)), some (.int (Int32.ofNat (t + c))), none] [] p (zh K ((0 : Int32), rf, rs, bad, pr', pn', J) (m3, pa, pb, pc, vf, vs, B) w) Q := by
          intro n
          induction n with
          | zero =>
            intro c rf rs pa pb pc vf vs m3 bad hcn hI
            obtain ⟨i1, i2, i3, i4, i5⟩ := hI
            have hR3 := zRS_fr (zRS_fr hR1 hw q1 (by omega)) hw i1 (by omega)
            refine b211_100 ?_
            rw [zN_leI (by omega) (by omega)]
            refine ⟨fun _ => ⟨fun hb => ?_, fun hb => ?_⟩, fun h => absurd (by omega) h⟩
            · have ez : ∃ E', zmb X.1 X.2.2.1 (X.2.2.1 - t) τ.2.2 τ.1 (zke t (X.2.2.1 - t)) = some E' := by
                cases hz : zmb X.1 X.2.2.1 (X.2.2.1 - t) τ.2.2 τ.1 (zke t (X.2.2.1 - t)) with
                | some E' => exact ⟨E', rfl⟩
                | none =>
                  obtain ⟨c', hc', en⟩ := cc2 hz
                  rw [zke_c hc'] at en
                  obtain ⟨V, eV, _⟩ := i3 hb c' (by omega)
                  rw [en] at eV; cases eV
              obtain ⟨E', eE⟩ := ez
              have wE := zmb_w hX.1.1 τ.1 _ E' hw1.2.2.2.1 (zke_w hX.1.1) eE
              rw [eE] at ex
              refine s146 (β := 4272) (r := X.1) (h := X.2.2.1) (d := X.2.2.1 - t) (E := E') (by omega) i2 (fun a c' ha hc' => ?_) (fun m4 y1 y2 => b211_225 ?_)
              · by_cases hac : a < X.2.2.1 ∧ c' < c
                · obtain ⟨V, eV, hV⟩ := i3 hb c' hac.2
                  obtain ⟨V', eV', hV'⟩ := cc1 E' eE c' (by omega)
                  rw [zke_c (by omega), eV] at eV'
                  cases eV'
                  rw [← hV' a]
                  exact hV a hac.1
                · rw [wE.2 a c' (by omega)]
                  exact i5 a c' ha hc' hac
              · have hR4 := zRS_fr hR3 hw y1 (by omega)
                rw [z1068]
                refine s154 (β := 4272) (C := 1068 * k1) (by omega) (by omega) (by omega) (fun m5 v1 v2 => b211_237 ?_)
                rw [show Int32.ofNat X.2.2.1 - Int32.ofNat t = Int32.ofNat (X.2.2.1 - t) from zN_sb rfl rfl w3]
                exact zfin (S := S) (x := .inl (Int32.ofNat (X.2.2.1 - t))) (S' := zup S k1 (X.1, X.2.2.1, X.2.2.1 - t, E', (0, E', zg0))) H ex m5 _ (zRS_up hR4 hw v1 (zRb_cp v2 (Nat.zero_le 200) (y2 zg0))) ⟨_, _, _, _, _, _, _, _, _, _, rfl⟩
            · obtain ⟨c', hc', en⟩ := i4 hb
              have ez : zmb X.1 X.2.2.1 (X.2.2.1 - t) τ.2.2 τ.1 (zke t (X.2.2.1 - t)) = none := by
                cases hz : zmb X.1 X.2.2.1 (X.2.2.1 - t) τ.2.2 τ.1 (zke t (X.2.2.1 - t)) with
                | none => rfl
                | some E' =>
                  obtain ⟨V, eV, _⟩ := cc1 E' hz c' (by omega)
                  rw [zke_c (by omega), en] at eV; cases eV
              rw [ez] at ex
              exact zfin (S := S) (x := .inr 3) (S' := S) H ex m3 _ hR3 ⟨_, _, _, _, _, _, _, _, _, _, rfl⟩
          | succ n ih =>
            intro c rf rs pa pb pc vf vs m3 bad hcn hI
            have hb3 : zRb m3 3204 X.1 X.2.1 X.2.2.1 X.2.2.2.2.2.1 τ := zRb_fr hI.1 (by omega) hw1.1 hb2
            refine b211_100 ?_
            rw [zN_leI (by omega) (by omega)]
            refine ⟨fun h => absurd h (by omega), fun _ => ?_⟩
            have l3 : ∀ (n x : Nat) (rf rs : Int32) (pa pb pc vf vs m4 : Nat → Int32) (bad' : Bool), x + n = X.2.2.1 → zKJ m3 m4 vf vs c x → zVB X.1 vf vs bad' ((bif bad then none else some (zuv (t + c))).bind (zvb X.1 τ.2.2 τ.1)) →
                zW zm_211 156 [some (.ref 75), none, some (.int (Int32.ofNat k1)), some (.int (Int32.ofNat t)), some (.int (Int32.ofNat X.2.2.1)), some (.int (Int32.ofNat (t + c))), some (.int (Int32.ofNat x))] [] p (zh K ((0 : Int32), rf, rs, bad', pr', pn', J) (m4, pa, pb, pc, vf, vs, B) w) Q := by
              intro n
              induction n with
              | zero =>
                intro x rf rs pa pb pc vf vs m4 bad' hx hJ hV
                have : x = X.2.2.1 := by omega
                subst this
                refine b211_156 ?_
                rw [zN_leI (by omega) (by omega), show Int32.ofNat (t + c) + (1 : Int32) = Int32.ofNat (t + c + 1) from zN_a rfl rfl]
                exact ⟨fun _ => ih (c + 1) rf rs pa pb pc vf vs m4 bad' (by omega) (zKI_s h2 (by omega) (by omega) hI hJ hV), fun h => absurd (by omega) h⟩
              | succ n ih3 =>
                intro x rf rs pa pb pc vf vs m4 bad' hx hJ hV
                refine b211_156 ?_
                rw [zN_leI (by omega) (by omega), show Int32.ofNat (t + c) - Int32.ofNat t = Int32.ofNat c from (zN_sb rfl rfl (by omega)).trans (by rw [Nat.add_sub_cancel_left])]
                exact ⟨fun h => absurd h (by omega), fun _ => ⟨by omega, 4276 + 8 * x + 2 * c, zN_a (zN_a rfl (zN_m rfl rfl)) (zN_m rfl rfl), by omega, ih3 (x + 1) rf rs pa pb pc vf vs _ bad' (by omega) (zKJ_s (by omega) hJ) hV⟩⟩
            have l2 : ∀ (n x : Nat) (vf vs : Nat → Int32), x + n = 4 → (∀ k, k < x → (vf k, vs k) = zuv (t + c) k) →
                zW zm_211 110 [some (.ref 75), none, some (.int (Int32.ofNat k1)), some (.int (Int32.ofNat t)), some (.int (Int32.ofNat X.2.2.1)), some (.int (Int32.ofNat (t + c))), some (.int (Int32.ofNat x))] [] p (zh K ((0 : Int32), rf, rs, bad, pr', pn', J) (m3, pa, pb, pc, vf, vs, B) w) Q := by
              intro n
              induction n with
              | zero =>
                intro x vf vs hx hv
                have hV : zVB X.1 vf vs bad (bif bad then none else some (zuv (t + c))) := by
                  refine ⟨fun k hk => ?_, ?_⟩
                  · rw [hv k (by omega)]
                    unfold zuv
                    split
                    · exact zok_1 hX.1.1
                    · exact zok_0 hX.1.1
                  · cases bad with
                    | true => rfl
                    | false => exact ⟨rfl, fun k hk => (hv k (by omega)).symm⟩
                refine b211_110 ⟨by omega, fun _ => b210 ?_, fun h => absurd h (by omega)⟩
                rw [show m3 3204 = Int32.ofNat X.1 from hb3.1.1, show m3 3207 = Int32.ofNat τ.1 from hb3.2.1, zpre_d]
                exact s210 hX.1 hb3 hw1 τ.1 _ rf rs pa pb pc vf vs bad (Nat.le_refl _) hV (fun rf3 rs3 pa3 pb3 pc3 vf3 vs3 bad3 hV3 => b211_153 (l3 X.2.2.1 0 rf3 rs3 pa3 pb3 pc3 vf3 vs3 m3 bad3 (by omega) ⟨fun a ha => absurd ha (Nat.not_lt_zero a), fun _ _ => rfl⟩ hV3))
              | succ n ih2 =>
                intro x vf vs hx hv
                refine b211_110 ⟨by omega, fun h => absurd h (by omega), fun _ => ?_⟩
                rw [zN_e (by omega) (by omega)]
                refine ⟨fun hne => ⟨by omega, ih2 (x + 1) _ _ (by omega) (fun k hk => ?_)⟩, fun heq => ⟨by omega, ih2 (x + 1) _ _ (by omega) (fun k hk => ?_)⟩⟩
                · by_cases hkx : k = x
                  · subst hkx; rw [va_up_self, va_up_self]; unfold zuv; rw [if_neg hne]
                  · rw [va_up_ne _ _ hkx, va_up_ne _ _ hkx]; exact hv k (by omega)
                · by_cases hkx : k = x
                  · subst hkx; rw [va_up_self, va_up_self]; unfold zuv; rw [if_pos heq]
                  · rw [va_up_ne _ _ hkx, va_up_ne _ _ hkx]; exact hv k (by omega)
            exact l2 4 0 vf vs (by omega) (fun k hk => absurd hk (Nat.not_lt_zero k))
        exact lp (X.2.2.1 - t) 0 rf1 rs1 pa1 pb1 pc1 vf vs m2 false (by omega) ⟨zfr_r, z2.1, fun _ c' hc' => absurd hc' (Nat.not_lt_zero c'), fun h => (by cases h), fun a c' ha hc' _ => z2.2.2.1 a c' ha hc'⟩
      · exact zfin (S := S) (x := .inl 0) (S' := S) H (ex.trans (if_pos heq)) m1 _ hR1 ⟨_, _, _, _, _, _, _, _, _, _, rfl⟩
    · have hR1 := zRS_fr hR hw f1 (by omega)
      rw [eτ] at ex
      exact zfin (S := S) (x := .inr 3) (S' := S) H ex m1 _ hR1 ⟨_, _, _, _, _, _, _, _, _, _, rfl⟩
  · exact zfin (S := S) (x := .inr 1) (S' := S) H (by rw [zc_kern, if_neg (by rw [c0, c1]; decide), ek0, znn_o (by omega), zRS_n hR hw hk0 c]) m _ hR ⟨_, _, _, _, _, _, _, _, _, _, rfl⟩
theorem k_kern {P : zPt} {T : Nat → zX} {Y : zYt} {I : zIt} {A : zAt} {w : Nat → Int64} {p : Nat × Nat} {Q : zR → zH → Prop} {S : zSs} {a0 a1 : Int32} (hw : zSw S) (hC : zCS T S) (H : ∀ T' h', zCS T' (zc_kern S a0 a1).2 → zCH Y I A w T' h' → Q (zRo (zc_kern S a0 a1).1) h') : zT zm_123 [.ref 0, .int a0, .int a1] p (zh (P, T, Y) I A w) Q := by
  have bad0 : (zslot a0 = false ∨ zslot a1 = false) → Q (.inr 0) (zh (P, T, Y) I A w) := fun c => kfin (x := .inr 0) (S' := S) H (by rw [zc_kern, if_pos c]) T _ hC ⟨P, rfl⟩
  refine b123 ⟨fun c1 k1 hk1 ek1 => ⟨hC.2, fun c k0 hk0 ek0 => ?_, fun c0 => bad0 (Or.inl c0), fun c => ?_⟩, fun c1 => bad0 (Or.inr c1)⟩
  · obtain ⟨X, e⟩ := zfil_k hC hk0 ek0 c.2
    have hX := hw k0 X hk0 e
    have hx := zCS_x hC hk0 e
    have h1 := hX.1.2.2.1
    have h2 := hX.1.2.2.2.2
    have h5 := hX.1.2.2.2.1
    have ex : zc_kern S a0 a1 = match zfS (zfr0 X) with
      | none => (.inr 3, S)
      | some q => if q.1 = X.2.2.1 then (.inl 0, S) else match zmb X.1 X.2.2.1 (X.2.2.1 - q.1) q.2.2.2 q.2.1 (zke q.1 (X.2.2.1 - q.1)) with
        | none => (.inr 3, S)
        | some E => (.inl (Int32.ofNat (X.2.2.1 - q.1)), zup S k1 (X.1, X.2.2.1, X.2.2.1 - q.1, E, (0, E, zg0))) := by
      rw [zc_kern, if_neg (by rw [c.1, c1]; decide), ek0, ek1, znn_o (by omega), znn_o (k := k1) (by omega), e]
    have wX := zwf_0 (g := zg0) hX.2.2.1
    refine s36 (i := 3) (by omega) (by omega) (by omega) hx.1 hx.2.2.1 (fun T1 f1 f2 => b123_22 ?_)
    have hC1 := zCS_w hC f1 (by omega) (zCX_b hX.1 wX (f2 zg0))
    refine s82 (i := 3) (by omega) hX.1 (f2 zg0) wX (fun t τ eτ P2 T2 q1 q2 q3 => b123_29 ?_) (fun eτ P2 T2 q1 q2 => ?_)
    · have eτ' : zfS (zfr0 X) = some (t, τ) := eτ
      rw [eτ'] at ex
      obtain ⟨_, w2, w3, w4, _⟩ := zfS_w hX eτ'
      have hC2 := zCS_w hC1 q1 (by omega) (zCX_b hX.1 q3 q2)
      rw [q2.1.2.2, q2.1.1, show Int32.ofNat X.2.2.1 - Int32.ofNat t = Int32.ofNat (X.2.2.1 - t) from zN_sb rfl rfl w3]
      have lt0 : (0 : Int32) < Int32.ofNat (X.2.2.1 - t) ↔ ¬ t = X.2.2.1 := by
        rw [Int32.lt_iff_toInt_lt, zN_i (by omega), Int32.toInt_zero]; omega
      rw [lt0]
      refine ⟨fun hne => ?_, fun heq => ?_⟩
      · have ex : zc_kern S a0 a1 = match zmb X.1 X.2.2.1 (X.2.2.1 - t) τ.2.2 τ.1 (zke t (X.2.2.1 - t)) with
          | none => (.inr 3, S)
          | some E => (.inl (Int32.ofNat (X.2.2.1 - t)), zup S k1 (X.1, X.2.2.1, X.2.2.1 - t, E, (0, E, zg0))) := ex.trans (if_neg hne)
        have sh5 : zsh X.1 X.2.2.1 (X.2.2.1 - t) := ⟨hX.1.1, h5, h2, by omega, by omega⟩
        refine s28 (i := 5) (r := X.1) (h := X.2.2.1) (d := X.2.2.1 - t) (by omega) (fun T3 g1 g2 => b123_73 ?_)
        have g3 := g2 zg0
        have wZ : zwf X.1 X.2.2.1 (X.2.2.1 - t) zZ (0, zZ, zg0) := zwf_0 (zZ_w hX.1.1)
        have lp : ∀ (n x : Nat) (T4 : Nat → zX), x + n = X.2.2.1 - t → zTo 5 T2 T4 → zXb (T4 5) → zCh (T4 5) X.1 X.2.2.1 (X.2.2.1 - t) → zCe (T4 5).2.2.2.2.1 (zke t x) →
            zW zm_123 76 [some (.ref 0), none, none, some (.ref (21 + 8 * k1)), none, some (.int (Int32.ofNat t)), some (.int (Int32.ofNat (X.2.2.1 - t))), some (.int (Int32.ofNat x))] [] p (zh (P2, T4, Y) I A w) Q := by
          intro n
          induction n with
          | zero =>
            intro x T4 hx2 v1 v2 v3 v4
            have : x = X.2.2.1 - t := by omega
            subst this
            have hC4 := zCS_w hC2 v1 (by omega) v2
            have x4 : zCX (T4 3) X.1 X.2.1 X.2.2.1 X.2.2.2.2.2.1 τ := by rw [v1 3 (by omega)]; exact q2
            refine b123_76 ?_
            rw [zN_leI (by omega) (by omega)]
            refine ⟨fun _ => b46 (by omega) ?_, fun h => absurd (by omega) h⟩
            rw [x4.2.1, zpre_d]
            refine s46 (i := 5) (j := 3) (T0 := T4) (by omega) (by omega) (by omega) sh5 q3 x4 v2 τ.1 _ P2 T4 (Nat.le_refl _) zTo_r v2 v3 v4 (zke_w hX.1.1) (fun E' eE P6 T6 z1 z2 z3 z4 z5 => b123_117 (by omega) ?_) (fun eE P6 T6 z1 z2 => ?_)
            · rw [eE] at ex
              have hC6 := zCS_w hC4 z1 (by omega) z2
              exact s36 (j := 5) (by omega) (by omega) (by omega) z3 z4 (fun T7 y1 y2 => b123_125 (kfin (x := .inl (Int32.ofNat (X.2.2.1 - t))) (S' := zup S k1 (X.1, X.2.2.1, X.2.2.1 - t, E', (0, E', zg0))) H ex T7 _ (zCS_up hC6 y1 (y2 zg0) ⟨sh5, zwf_0 z5⟩) ⟨P6, rfl⟩))
            · rw [eE] at ex
              exact kfin (x := .inr 3) (S' := S) H ex T6 _ (zCS_w hC4 z1 (by omega) z2) ⟨P6, rfl⟩
          | succ n ih =>
            intro x T4 hx2 v1 v2 v3 v4
            refine b123_76 ?_
            rw [zN_leI (by omega) (by omega), show Int32.ofNat t + Int32.ofNat x = Int32.ofNat (t + x) from zN_a rfl rfl]
            refine ⟨fun h => absurd h (by omega), fun _ => s32 (by omega) v2 v3 (show t + x < X.2.2.1 by omega) (show x < X.2.2.1 - t by omega) (b123_100 (ih (x + 1) _ (by omega) (zTo_t v1 zTo_u) ?_ ?_ ?_))⟩
            · rw [va_up_self]; exact v2
            · rw [va_up_self]; exact v3
            · rw [va_up_self]
              intro a c ha hc
              show va_up (T4 5).2.2.2.2.1 ((t + x) * 4 + x) _ (a * 4 + c) = _
              by_cases hac : a = t + x ∧ c = x
              · obtain ⟨rfl, rfl⟩ := hac
                rw [va_up_self]
                unfold zke
                rw [if_pos ⟨rfl, by omega⟩, zen_1]
              · rw [va_up_ne _ _ (by omega), v4 a c ha hc]
                unfold zke
                by_cases hp : a = t + c ∧ c < x
                · rw [if_pos hp, if_pos ⟨hp.1, by omega⟩]
                · rw [if_neg hp, if_neg (by omega)]
        refine lp (X.2.2.1 - t) 0 T3 (by omega) g1 (zCX_b sh5 wZ g3) g3.1 (fun a c ha hc => ?_)
        rw [g3.2.2.1 a c ha hc]
        unfold zke
        rw [if_neg (by omega)]; rfl
      · exact kfin (x := .inl 0) (S' := S) H (ex.trans (if_pos (Decidable.not_not.mp heq))) T2 _ hC2 ⟨P2, rfl⟩
    · rw [show zfS (zfr0 X) = none from eτ] at ex
      exact kfin (x := .inr 3) (S' := S) H ex T2 _ (zCS_w hC1 q1 (by omega) q2) ⟨P2, rfl⟩
  · obtain ⟨k, hk, ek, e⟩ := zfil_n hC hw c.1 c.2
    exact kfin (x := .inr 1) (S' := S) H (by rw [zc_kern, if_neg (by rw [c.1, c1]; decide), ek, znn_o (by omega), e]) T _ hC ⟨P, rfl⟩
