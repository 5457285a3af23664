/-! SOLVE, both sides -/
theorem zpre_d (n : Nat) : Int32.ofNat n - 1 = zpre n := by
  unfold zpre
  rw [Int32.sub_eq_add_neg]; rfl
theorem zvs_z {r h d : Nat} {s : zSt} {V V' : zVe} (hs : zsv r h d s) (e : zvs r s V = some V') (hz : ∀ k, d ≤ k → V k = (0, 0)) : ∀ k, d ≤ k → V' k = (0, 0) := by
  by_cases hk : zkc s = true
  · have s2 := hs.2.1
    have s3 := hs.2.2.1
    rw [hk] at s2 s3
    have s2 : s.2.1 < d := s2
    intro k hkd
    unfold zvs at e
    split at e
    · have j : s.2.2.1 < d := (s3 (by omega)).1
      cases e
      unfold zvu
      rw [if_neg (by omega), if_neg (by omega)]
      exact hz k hkd
    · split at e
      · have j : s.2.2.1 < d := (s3 (by omega)).1
        obtain ⟨v, _, rfl⟩ := Option.map_eq_some_iff.mp e
        unfold zvu
        rw [if_neg (by omega)]
        exact hz k hkd
      · split at e
        · obtain ⟨v, _, rfl⟩ := Option.map_eq_some_iff.mp e
          unfold zvu
          rw [if_neg (by omega)]
          exact hz k hkd
        · cases e; exact hz k hkd
  · rw [zvs_k hk] at e
    cases e; exact hz
theorem zvs_ok {r h d : Nat} (hr : zrg r) {s : zSt} {V V' : zVe} (hs : zsv r h d s) (e : zvs r s V = some V') (hz : ∀ k, zok r (V k)) : ∀ k, zok r (V' k) := by
  intro k
  have hf := hs.2.2.2.2.1
  unfold zvs at e
  split at e
  · cases e
    unfold zvu
    split
    · exact hz _
    · split
      · exact hz _
      · exact hz _
  · split at e
    · obtain ⟨v, hv, rfl⟩ := Option.map_eq_some_iff.mp e
      unfold zvu
      split
      · exact zok_plus hr (hz _) hf (hz _) hv
      · exact hz _
    · split at e
      · obtain ⟨v, hv, rfl⟩ := Option.map_eq_some_iff.mp e
        unfold zvu
        split
        · exact zok_plus hr (zok_0 hr) hf (hz _) hv
        · exact hz _
      · cases e; exact hz k
theorem zvb_z {r h d : Nat} {g : Nat → zSt} : ∀ (n : Nat) (V V' : zVe), (∀ k, k < n → zsv r h d (g k)) → zvb r g n V = some V' → (∀ k, d ≤ k → V k = (0, 0)) → ∀ k, d ≤ k → V' k = (0, 0)
  | 0, V, V', _, e, hz => by cases e; exact hz
  | n + 1, V, V', hg, e, hz => by
    rw [zvb] at e
    obtain ⟨V1, e1, e2⟩ := Option.bind_eq_some_iff.mp e
    exact zvb_z n V1 V' (fun k hk => hg k (by omega)) e2 (zvs_z (hg n (by omega)) e1 hz)
theorem zvb_ok {r h d : Nat} (hr : zrg r) {g : Nat → zSt} : ∀ (n : Nat) (V V' : zVe), (∀ k, k < n → zsv r h d (g k)) → zvb r g n V = some V' → (∀ k, zok r (V k)) → ∀ k, zok r (V' k)
  | 0, V, V', _, e, hz => by cases e; exact hz
  | n + 1, V, V', hg, e, hz => by
    rw [zvb] at e
    obtain ⟨V1, e1, e2⟩ := Option.bind_eq_some_iff.mp e
    exact zvb_ok hr n V1 V' (fun k hk => hg k (by omega)) e2 (zvs_ok hr (hg n (by omega)) e1 hz)
theorem zqs_z {r t : Nat} {E : zMe} {V0 : zVe} : ∀ (n x : Nat) (V V' : zVe), zqs r t E V0 n x V = some V' → (∀ k, t ≤ k → V k = (0, 0)) → ∀ k, t ≤ k → V' k = (0, 0)
  | 0, x, V, V', e, hz => by cases e; exact hz
  | n + 1, x, V, V', e, hz => by
    rw [zqs] at e
    split at e
    · split at e
      · refine zqs_z n (x + 1) _ V' e (fun k hk => ?_)
        unfold zvu
        rw [if_neg (by omega)]
        exact hz k hk
      · cases e
    · split at e
      · exact zqs_z n (x + 1) V V' e hz
      · cases e
theorem zqs_ok {r t : Nat} (hr : zrg r) {E : zMe} {V0 : zVe} (h0 : ∀ k, zok r (V0 k)) (hE : ∀ k, zok r (E k k)) (hd : ∀ k, k < t → E k k ≠ (0, 0)) : ∀ (n x : Nat) (V V' : zVe), zqs r t E V0 n x V = some V' → (∀ k, zok r (V k)) → ∀ k, zok r (V' k)
  | 0, x, V, V', e, hz => by cases e; exact hz
  | n + 1, x, V, V', e, hz => by
    rw [zqs] at e
    split at e
    · rename_i hx
      split at e
      · refine zqs_ok hr h0 hE hd n (x + 1) _ V' e (fun k => ?_)
        unfold zvu
        split
        · exact zok_quo hr (h0 _) (hE _) (hd x hx)
        · exact hz k
      · cases e
    · split at e
      · exact zqs_ok hr h0 hE hd n (x + 1) V V' e hz
      · cases e
theorem zvm_w {r d : Nat} (hr : zrg r) {V : zVe} (h1 : ∀ k, zok r (V k)) (h2 : ∀ k, d ≤ k → V k = (0, 0)) : zEw r d 1 (zvm V) := by
  refine ⟨fun a c => ?_, fun a c hac => ?_⟩
  · unfold zvm; split
    · exact h1 a
    · exact zok_0 hr
  · unfold zvm; split
    · exact h2 a (by omega)
    · rfl
theorem ztf_w {r h d h' d' : Nat} {c : Bool} {g : Nat → zSt} {O : zMe} (hr : zrg r) (hl : zll h' d' c = zll h d c) : ∀ (n k : Nat) (σ τ : zFo), (∀ i, k ≤ i → i < k + n → zsv r h' d' (g i)) → zwf r h d O σ → ztf r h d c g n k (some σ) = some τ → zwf r h d O τ
  | 0, k, σ, τ, _, hw, e => by cases e; exact hw
  | n + 1, k, σ, τ, hg, hw, e => by
    rw [ztf] at e
    by_cases hc : zkc (g k) = c
    · rw [if_pos hc, Option.bind_some] at e
      cases hz : zdo r h d (g k) σ with
      | none => rw [hz, ztf_n] at e; cases e
      | some σ' =>
        rw [hz] at e
        exact ztf_w hr hl n (k + 1) σ' τ (fun i h1 h2 => hg i (by omega) (by omega)) (zdo_w hr hw (zsv_t (hg k (by omega) (by omega)) hc hl) hz) e
    · rw [if_neg hc] at e
      exact ztf_w hr hl n (k + 1) σ τ (fun i h1 h2 => hg i (by omega) (by omega)) hw e
theorem r_solve {K : zKt} {code rf rs pr pn : Int32} {bad : Bool} {J : zJt} {m pa pb pc vf vs : Nat → Int32} {B : zBt} {w : Nat → Int64} {p : Nat × Nat} {Q : zR → zH → Prop} {S : zSs} {a0 a1 a2 : Int32} (hw : zSw S) (hR : zRS m S) (H : ∀ m' h', zRS m' (zc_solve S a0 a1 a2).2 → zRH K J B w m' (zcd [0, 1, 3] (zc_solve S a0 a1 a2).1) h' → Q (.inl (some (.int (zrv (zc_solve S a0 a1 a2).1)))) h') : zT zm_207 [.ref 75, .int a0, .int a1, .int a2] p (zh K (code, rf, rs, bad, pr, pn, J) (m, pa, pb, pc, vf, vs, B) w) Q := by
  have bad0 : (zslot a0 = false ∨ zslot a1 = false ∨ zslot a2 = false) → Q (.inl (some (.int (0 : Int32)))) (zh K ((1 : Int32), rf, rs, bad, pr, pn, J) (m, pa, pb, pc, vf, vs, B) w) := by
    intro c
    exact zfin (S := S) (x := .inr 0) (S' := S) H (by rw [zc_solve, if_pos c]) m _ hR ⟨_, _, _, _, _, _, _, _, _, _, rfl⟩
  refine b207 ⟨fun c0 => bad0 (Or.inl c0), fun c0 k0 hk0 ek0 => ⟨fun c1 => bad0 (Or.inr (Or.inl c1)), fun c1 k1 hk1 ek1 => ⟨fun c2 k2 hk2 ek2 => ⟨by omega, fun c => ?_, fun c => ⟨by omega, fun c' => ?_, fun c' => ?_⟩⟩, fun c2 => bad0 (Or.inr (Or.inr c2))⟩⟩⟩
  · exact zfin (S := S) (x := .inr 1) (S' := S) H (by rw [zc_solve, if_neg (by rw [c0, c1, c2]; decide), ek0, znn_o (by omega), zRS_n hR hw hk0 c]) m _ hR ⟨_, _, _, _, _, _, _, _, _, _, rfl⟩
  · exact zfin (S := S) (x := .inr 1) (S' := S) H (by
      rw [zc_solve, if_neg (by rw [c0, c1, c2]; decide), ek1, znn_o (k := k1) (by omega), zRS_n hR hw hk1 c']
      cases S (znn a0) <;> rfl) m _ hR ⟨_, _, _, _, _, _, _, _, _, _, rfl⟩
  obtain ⟨X, e⟩ := zRS_s hR hw hk0 c
  obtain ⟨Y, e'⟩ := zRS_s hR hw hk1 c'
  have hX := hw k0 X hk0 e
  have hY := hw k1 Y hk1 e'
  have hb := zRS_b hR hk0 e
  have hb' := zRS_b hR hk1 e'
  have hr1 := zrg_lt hX.1.1
  have hr2 := zrg_lt hY.1.1
  have h1 := hX.1.2.2.1
  have h2 := hX.1.2.2.2.2
  have h3 := hY.1.2.2.1
  have h4 := hY.1.2.2.2.2
  have ex : zc_solve S a0 a1 a2 = if X.1 = Y.1 ∧ Y.2.2.1 = 1 ∧ Y.2.1 = X.2.1 then (match zfS (zfr0 X) with
      | none => (.inr 3, S)
      | some q => match zsol X Y q with
        | none => (.inr 3, S)
        | some none => (.inl 0, S)
        | some (some V) => (.inl 1, zup S k2 (X.1, X.2.2.1, 1, zvm V, (0, zvm V, zg0)))) else (.inr 1, S) := by
    rw [zc_solve, if_neg (by rw [c0, c1, c2]; decide), ek0, ek1, ek2, znn_o (by omega), znn_o (by omega), znn_o (k := k2) (by omega), e, e']
    rfl
  have bad1 : ¬ (X.1 = Y.1 ∧ Y.2.2.1 = 1 ∧ Y.2.1 = X.2.1) → Q (.inl (some (.int (0 : Int32)))) (zh K ((2 : Int32), rf, rs, bad, pr, pn, J) (m, pa, pb, pc, vf, vs, B) w) := by
    intro hn
    exact zfin (S := S) (x := .inr 1) (S' := S) H (by rw [ex, if_neg hn]) m _ hR ⟨_, _, _, _, _, _, _, _, _, _, rfl⟩
  rw [show m (1068 * k0 + 0) = Int32.ofNat X.1 from hb.1.1, show m (1068 * k1 + 0) = Int32.ofNat Y.1 from hb'.1.1, hb.1.2.1, hb'.1.2.1, hb'.1.2.2]
  refine ⟨by omega, by omega, fun hn => bad1 (fun g => hn (by rw [g.1])), fun er => ⟨by omega, fun hn => bad1 (fun g => hn (by rw [g.2.1]; rfl)), fun ed => ⟨by omega, by omega, fun eh => ?_, fun hn => bad1 (fun g => hn (by rw [g.2.2]))⟩⟩⟩
  have er' := zN_inj (by omega) (by omega) er
  have eh' := zN_inj (by omega) (by omega) eh
  have ed' : Y.2.2.1 = 1 := zN_inj (b := 1) (by omega) (by omega) ed
  rw [if_pos ⟨er', ed', eh'.symm⟩] at ex
  have sh1 : zsh X.1 X.2.1 1 := ⟨hX.1.1, hX.1.2.1, h1, by omega, by omega⟩
  have hEY := hY.2.2.1
  rw [← er', ← eh', ed'] at hEY
  refine s208 hw hR hk0 e (fun t τ eτ rf1 rs1 pa1 pb1 pc1 pr' pn' m1 f1 hb1 hw1 => b207_128 ?_) (fun eτ rv rf1 rs1 pa1 pb1 pc1 pr' pn' m1 f1 => b207_128 ?_)
  · have hR1 := zRS_fr hR hw f1 (by omega)
    obtain ⟨_, w2, w3, w4, _⟩ := zfS_w hX eτ
    have hc : τ.1 ≤ 200 := hw1.1
    rw [eτ] at ex
    have ex : zc_solve S a0 a1 a2 = match zsol X Y (t, τ) with
        | none => (.inr 3, S)
        | some none => (.inl 0, S)
        | some (some V) => (.inl 1, zup S k2 (X.1, X.2.2.1, 1, zvm V, (0, zvm V, zg0))) := ex
    refine s154 (β := 1068 * k1) (C := 4272) (by omega) (by omega) (by omega) (fun m2 q1 q2 => b207_139 ?_)
    have hR2 := zRS_fr hR1 hw q1 (by omega)
    have hb2 : zRb m2 3204 X.1 X.2.1 X.2.2.1 X.2.2.2.2.2.1 τ := zRb_fr q1 (by omega) hw1.1 hb1
    have hb4 := zRb_cp q2 hY.2.1 (zRS_b hR1 hk1 e')
    rw [← er', ← eh', ed'] at hb4
    have fail : ∀ (m3 : Nat → Int32) (h' : zH), zsol X Y (t, τ) = none → zRS m3 S → zRH K J B w m3 3 h' → Q (.inl (some (.int (0 : Int32)))) h' := by
      intro m3 h' es hR3 hh
      rw [es] at ex
      exact zfin (S := S) (x := .inr 3) (S' := S) H ex m3 h' hR3 hh
    have lp : ∀ (n x cnt : Nat) (E : zMe) (g : Nat → zSt) (rf rs : Int32) (pa pb pc m3 : Nat → Int32), x + n = τ.1 → cnt ≤ x → zfr 4272 m2 m3 → zRh m3 4272 X.1 X.2.1 1 → zRE m3 4276 E → zEw X.1 X.2.1 1 E → ztf X.1 X.2.1 1 false τ.2.2 n x (some (cnt, E, g)) = ztf X.1 X.2.1 1 false τ.2.2 τ.1 0 (some (0, Y.2.2.2.2.2.1, zg0)) →
        zW zm_207 142 [some (.ref 75), none, none, some (.int (Int32.ofNat k2)), some (.int (Int32.ofNat (1068 * k0))), none, some (.int (Int32.ofNat t)), some (.int (Int32.ofNat x)), none, none] [] p (zh K ((0 : Int32), rf, rs, false, pr', pn', J) (m3, pa, pb, pc, vf, vs, B) w) Q := by
      intro n
      induction n with
      | zero =>
        intro x cnt E g rf rs pa pb pc m3 hx hcx hf hh hE hEw eo
        have hR3 := zRS_fr hR2 hw hf (by omega)
        have hb3 : zRb m3 3204 X.1 X.2.1 X.2.2.1 X.2.2.2.2.2.1 τ := zRb_fr hf (by omega) hw1.1 hb2
        have eo : some (cnt, E, g) = _ := eo
        have es : zsol X Y (t, τ) = match zqs X.1 t τ.2.1 (fun k => E k 0) X.2.1 0 (fun _ => (0, 0)) with
            | none => some none
            | some V => match zvb X.1 τ.2.2 τ.1 V with
              | none => none
              | some V' => some (some V') := by
          unfold zsol
          show (match ztf X.1 X.2.1 1 false τ.2.2 τ.1 0 (some (0, Y.2.2.2.2.2.1, zg0)) with
            | none => none
            | some τ' => _) = _
          rw [← eo]
          rfl
        refine b207_142 ?_
        rw [show m3 3207 = Int32.ofNat τ.1 from hb3.2.1, zN_leI (by omega) (by omega)]
        refine ⟨fun _ => ⟨fun _ => ?_, fun h => (by cases h)⟩, fun h => absurd (by omega) h⟩
        refine s209 hX.1 hb3 hw1 hE hEw.1 w2 w3 w4 (fun V eV rf2 rs2 pa2 pb2 pc2 vf2 vs2 hV => b207_258 (rv := true) ⟨fun _ => ?_, fun h => (by cases h)⟩) (fun eV rf2 rs2 pa2 pb2 pc2 vf2 vs2 => b207_258 (rv := false) ⟨fun h => (by cases h), fun _ => ?_⟩)
        · rw [eV] at es
          have es : zsol X Y (t, τ) = match zvb X.1 τ.2.2 τ.1 V with
              | none => none
              | some V' => some (some V') := es
          refine b210 ?_
          rw [show m3 3204 = Int32.ofNat X.1 from hb3.1.1, show m3 3207 = Int32.ofNat τ.1 from hb3.2.1, zpre_d]
          refine s210 hX.1 hb3 hw1 τ.1 (some V) rf2 rs2 pa2 pb2 pc2 vf2 vs2 false (Nat.le_refl _) hV (fun rf3 rs3 pa3 pb3 pc3 vf3 vs3 bad3 hV3 => b207_267 ?_)
          rw [Option.bind_some] at hV3
          cases ez : zvb X.1 τ.2.2 τ.1 V with
          | none =>
            rw [ez] at hV3 es
            obtain ⟨_, rfl⟩ := hV3
            exact ⟨fun h => (by cases h), fun _ => fail m3 _ es hR3 ⟨_, _, _, _, _, _, _, _, _, _, rfl⟩⟩
          | some V' =>
            rw [ez] at hV3 es
            obtain ⟨_, rfl, hV4⟩ := hV3
            rw [es] at ex
            have hbx := zRS_b hR3 hk0 e
            rw [show m3 (1068 * k0 + 0) = Int32.ofNat X.1 from hbx.1.1, hbx.1.2.2, z1068]
            have vz := zvb_z τ.1 V V' hw1.2.2.2.1 ez (fun k hk => zqs_z X.2.1 0 _ V eV (fun _ _ => rfl) k (by omega))
            refine ⟨fun _ => ⟨by omega, by omega, s145 (β := 1068 * k2) (r := X.1) (h := X.2.2.1) (d := 1) (by omega) (fun m4 u1 u2 => b207_316 ?_)⟩, fun h => (by cases h)⟩
            have lq : ∀ (n x : Nat) (m5 : Nat → Int32), x + n = X.2.2.1 → zfr (1068 * k2) m3 m5 → zRh m5 (1068 * k2) X.1 X.2.2.1 1 → zRE m5 (1068 * k2 + 4) (fun a c => if c = 0 ∧ a < x then V' a else (0, 0)) →
                zW zm_207 319 [some (.ref 75), none, none, some (.int (Int32.ofNat k2)), none, none, none, none, some (.int (Int32.ofNat X.2.2.1)), some (.int (Int32.ofNat x))] [] p (zh K ((0 : Int32), rf3, rs3, false, pr', pn', J) (m5, pa3, pb3, pc3, vf3, vs3, B) w) Q := by
              intro n
              induction n with
              | zero =>
                intro x m5 hx g1 g2 g3
                refine b207_319 ?_
                rw [zN_leI (by omega) (by omega), z1068]
                refine ⟨fun _ => s146 (β := 1068 * k2) (r := X.1) (h := X.2.2.1) (d := 1) (E := zvm V') (by omega) g2 (fun a c ha hc => ?_) (fun m6 y1 y2 => b207_370 ?_), fun h => absurd (by omega) h⟩
                · have := g3 a c ha hc
                  unfold zvm
                  by_cases hc0 : c = 0
                  · rw [if_pos hc0]
                    by_cases hax : a < x
                    · simp only [if_pos (show c = 0 ∧ a < x from ⟨hc0, hax⟩)] at this; exact this
                    · simp only [if_neg (show ¬ (c = 0 ∧ a < x) from fun h => hax h.2)] at this; rw [vz a (by omega)]; exact this
                  · rw [if_neg hc0]
                    simp only [if_neg (show ¬ (c = 0 ∧ a < x) from fun h => hc0 h.1)] at this; exact this
                · exact zfin (S := S) (x := .inl 1) (S' := zup S k2 (X.1, X.2.2.1, 1, zvm V', (0, zvm V', zg0))) H ex m6 _ (zRS_up hR3 hw (zfr_t g1 y1) (y2 zg0)) ⟨_, _, _, _, _, _, _, _, _, _, rfl⟩
              | succ n ih =>
                intro x m5 hx g1 g2 g3
                refine b207_319 ?_
                rw [zN_leI (by omega) (by omega)]
                refine ⟨fun h => absurd h (by omega), fun _ => ⟨by omega, by omega, ih (x + 1) _ (by omega) (fun k hk => ?_) (zRh_eq (fun k _ _ => zu2_n (by omega) (by omega)) g2) (fun a c ha hc => ?_)⟩⟩
                · rw [zu2_n (by omega) (by omega)]; exact g1 k hk
                · have h8 := hV4 x (by omega)
                  by_cases hac : a = x ∧ c = 0
                  · obtain ⟨rfl, rfl⟩ := hac
                    rw [zu2_0, zu2_1]
                    show vf3 a = (if 0 = 0 ∧ a < a + 1 then V' a else (0, 0)).1 ∧ vs3 a = (if 0 = 0 ∧ a < a + 1 then V' a else (0, 0)).2
                    rw [if_pos ⟨rfl, by omega⟩, h8]
                    exact ⟨rfl, rfl⟩
                  · rw [zu2_n (by omega) (by omega), zu2_n (by omega) (by omega)]
                    have := g3 a c ha hc
                    by_cases hp : c = 0 ∧ a < x
                    · simp only [if_pos hp] at this
                      simp only [if_pos (show c = 0 ∧ a < x + 1 from ⟨hp.1, by omega⟩)]; exact this
                    · simp only [if_neg hp] at this
                      simp only [if_neg (show ¬ (c = 0 ∧ a < x + 1) by omega)]; exact this
            have u3 := u2 zg0
            exact lq X.2.2.1 0 m4 (by omega) u1 u3.1 (fun a c ha hc => by
              simp only [if_neg (show ¬ (c = 0 ∧ a < 0) by omega)]
              exact u3.2.2.1 a c ha hc)
        · rw [eV] at es
          rw [es] at ex
          exact zfin (S := S) (x := .inl 0) (S' := S) H ex m3 _ hR3 ⟨_, _, _, _, _, _, _, _, _, _, rfl⟩
      | succ n ih =>
        intro x cnt E g rf rs pa pb pc m3 hx hcx hf hh hE hEw eo
        have hR3 := zRS_fr hR2 hw hf (by omega)
        have hb3 : zRb m3 3204 X.1 X.2.1 X.2.2.1 X.2.2.2.2.2.1 τ := zRb_fr hf (by omega) hw1.1 hb2
        have hx' : x < τ.1 := by omega
        obtain ⟨g1, g2, g3, g4, g5⟩ := hb3.2.2.2.2 x hx'
        rw [show 3204 + 68 + 5 * x = 3272 + 5 * x by omega] at g1 g2 g3 g4 g5
        have hs := hw1.2.2.2.1 x hx'
        have h6 := hs.1
        rw [ztf] at eo
        have le3 : ((3 : Int32) ≤ Int32.ofNat (τ.2.2 x).1) ↔ ¬ zkc (τ.2.2 x) = false := by
          rw [zkc_2.1, show (3 : Int32) = Int32.ofNat 3 from rfl, zN_leI (by omega) (by omega)]; omega
        refine b207_142 ?_
        rw [show m3 3207 = Int32.ofNat τ.1 from hb3.2.1, zN_leI (by omega) (by omega), g1, g2, g3, g4, g5, le3]
        refine ⟨fun h => absurd h (by omega), fun _ => ⟨fun h => (by cases h), fun _ => ⟨by omega, fun k3 => ?_, fun k3 => ⟨by omega, by omega, by omega, by omega, ?_⟩⟩⟩⟩
        · rw [if_neg k3] at eo
          exact ih (x + 1) cnt E g rf rs pa pb pc m3 (by omega) (by omega) hf hh hE hEw eo
        · have k3 := Decidable.not_not.mp k3
          rw [if_pos k3, Option.bind_some] at eo
          have hs' : zsv X.1 X.2.1 1 (τ.2.2 x) := zsv_t hs k3 rfl
          refine s175 (β := 4272) sh1 (by omega) hh hE hEw hs' (fun h => zsj_n h) (fun rf2 rs2 pa2 pb2 pc2 m4 bad4 u1 u2 u3 => b207_233 ?_)
          have hf4 : zfr 4272 m2 m4 := fun k hk => (u1 k (by omega)).trans (hf k hk)
          cases bad4 with
          | false =>
            obtain ⟨_, E', eE, hE'⟩ := u2 rfl
            have ed : zdo X.1 X.2.1 1 (τ.2.2 x) (cnt, E, g) = some (cnt + 1, E', va_up g cnt (τ.2.2 x)) := by
              unfold zdo
              rw [if_neg (show ¬ cnt = 200 by omega)]
              show (match zap X.1 X.2.1 1 E (τ.2.2 x) with
                | none => none
                | some E => some (cnt + 1, E, va_up g cnt (τ.2.2 x))) = _
              rw [eE]
            rw [ed] at eo
            exact ih (x + 1) (cnt + 1) E' _ rf2 rs2 pa2 pb2 pc2 m4 (by omega) (by omega) hf4 (zRh_eq (fun k _ _ => u1 k (by omega)) hh) hE' (zap_w hX.1.1 hEw hs' eE) eo
          | true =>
            have eE : zap X.1 X.2.1 1 E (τ.2.2 x) = none := by
              rcases u3 rfl with h | h
              · cases h
              · exact h
            have ed : zdo X.1 X.2.1 1 (τ.2.2 x) (cnt, E, g) = none := by
              unfold zdo
              rw [if_neg (show ¬ cnt = 200 by omega)]
              show (match zap X.1 X.2.1 1 E (τ.2.2 x) with
                | none => none
                | some E => some (cnt + 1, E, va_up g cnt (τ.2.2 x))) = _
              rw [eE]
            rw [ed, ztf_n] at eo
            have es : zsol X Y (t, τ) = none := by
              unfold zsol
              show (match ztf X.1 X.2.1 1 false τ.2.2 τ.1 0 (some (0, Y.2.2.2.2.2.1, zg0)) with
                | none => none
                | some τ' => _) = _
              rw [← eo]
            have hR4 := zRS_fr hR2 hw hf4 (by omega)
            exact b207_142 ⟨fun _ => ⟨fun h => (by cases h), fun _ => fail m4 _ es hR4 ⟨_, _, _, _, _, _, _, _, _, _, rfl⟩⟩, fun _ => ⟨fun _ => ⟨fun h => (by cases h), fun _ => fail m4 _ es hR4 ⟨_, _, _, _, _, _, _, _, _, _, rfl⟩⟩, fun h => (by cases h)⟩⟩
    exact lp τ.1 0 0 Y.2.2.2.2.2.1 zg0 rf1 rs1 pa1 pb1 pc1 m2 (by omega) (by omega) zfr_r hb4.1 hb4.2.2.1 hEY rfl
  · have hR1 := zRS_fr hR hw f1 (by omega)
    rw [eτ] at ex
    refine s154 (β := 1068 * k1) (C := 4272) (by omega) (by omega) (by omega) (fun m2 q1 q2 => b207_139 ?_)
    have hR2 := zRS_fr hR1 hw q1 (by omega)
    have fin : Q (.inl (some (.int (0 : Int32)))) (zh K ((3 : Int32), rf1, rs1, true, pr', pn', J) (m2, pa1, pb1, pc1, vf, vs, B) w) := zfin (S := S) (x := .inr 3) (S' := S) H ex m2 _ hR2 ⟨_, _, _, _, _, _, _, _, _, _, rfl⟩
    exact b207_142 ⟨fun _ => ⟨fun h => (by cases h), fun _ => fin⟩, fun _ => ⟨fun _ => ⟨fun h => (by cases h), fun _ => fin⟩, fun h => (by cases h)⟩⟩
theorem k_solve {P : zPt} {T : Nat → zX} {Y : zYt} {I : zIt} {A : zAt} {w : Nat → Int64} {p : Nat × Nat} {Q : zR → zH → Prop} {S : zSs} {a0 a1 a2 : Int32} (hw : zSw S) (hC : zCS T S) (H : ∀ T' h', zCS T' (zc_solve S a0 a1 a2).2 → zCH Y I A w T' h' → Q (zRo (zc_solve S a0 a1 a2).1) h') : zT zm_121 [.ref 0, .int a0, .int a1, .int a2] p (zh (P, T, Y) I A w) Q := by
  have bad0 : (zslot a0 = false ∨ zslot a1 = false ∨ zslot a2 = false) → Q (.inr 0) (zh (P, T, Y) I A w) := fun c => kfin (x := .inr 0) (S' := S) H (by rw [zc_solve, if_pos c]) T _ hC ⟨P, rfl⟩
  refine b121 ⟨fun c2 k2 hk2 ek2 => ⟨fun c0 k0 hk0 ek0 => ⟨fun c1 k1 hk1 ek1 => ⟨by have := (hC.2 k0).1; omega, ?_⟩, fun c1 => bad0 (Or.inr (Or.inl c1))⟩, fun c0 => bad0 (Or.inl c0)⟩, fun c2 => bad0 (Or.inr (Or.inr c2))⟩
  rw [zCS_0 hC hw hk0, zCS_0 hC hw hk1]
  have hslots : ¬ (zslot a0 = false ∨ zslot a1 = false ∨ zslot a2 = false) := by rw [c0, c1, c2]; decide
  refine ⟨fun c => ?_, fun c => ⟨by have := (hC.2 k1).1; omega, fun c' => ?_, fun c' => ?_⟩⟩
  · exact kfin (x := .inr 1) (S' := S) H (by rw [zc_solve, if_neg hslots, ek0, znn_o (by omega), Option.isNone_iff_eq_none.mp c]) T _ hC ⟨P, rfl⟩
  · exact kfin (x := .inr 1) (S' := S) H (by
      rw [zc_solve, if_neg hslots, ek1, znn_o (k := k1) (by omega), Option.isNone_iff_eq_none.mp c']
      cases S (znn a0) <;> rfl) T _ hC ⟨P, rfl⟩
  cases e : S k0 with
  | none => rw [e] at c; cases c
  | some X =>
  cases e' : S k1 with
  | none => rw [e'] at c'; cases c'
  | some X' =>
  have hX := hw k0 X hk0 e
  have hY := hw k1 X' hk1 e'
  have hx := zCS_x hC hk0 e
  have hy := zCS_x hC hk1 e'
  have h1 := hX.1.2.2.1
  have h2 := hX.1.2.2.2.2
  have h3 := hY.1.2.2.1
  have h4 := hY.1.2.2.2.2
  have ex : zc_solve S a0 a1 a2 = if X.1 = X'.1 ∧ X'.2.2.1 = 1 ∧ X'.2.1 = X.2.1 then (match zfS (zfr0 X) with
      | none => (.inr 3, S)
      | some q => match zsol X X' q with
        | none => (.inr 3, S)
        | some none => (.inl 0, S)
        | some (some V) => (.inl 1, zup S k2 (X.1, X.2.2.1, 1, zvm V, (0, zvm V, zg0)))) else (.inr 1, S) := by
    rw [zc_solve, if_neg hslots, ek0, ek1, ek2, znn_o (by omega), znn_o (by omega), znn_o (k := k2) (by omega), e, e']
    rfl
  have bad1 : ¬ (X.1 = X'.1 ∧ X'.2.2.1 = 1 ∧ X'.2.1 = X.2.1) → Q (.inr 1) (zh (P, T, Y) I A w) := fun hn => kfin (x := .inr 1) (S' := S) H (by rw [ex, if_neg hn]) T _ hC ⟨P, rfl⟩
  rw [zrno_e hC hw hk0 e, zrno_e hC hw hk1 e', hy.1.2.2, hy.1.2.1, hx.1.2.1]
  refine ⟨fun hn => bad1 (fun g => (of_decide_eq_false hn) g.1), fun hr => ⟨by omega, fun hn => bad1 (fun g => hn g.2.1), fun hd => ⟨by omega, by omega, fun hn => bad1 (fun g => hn g.2.2), fun hh => ?_⟩⟩⟩
  have er := of_decide_eq_true hr
  rw [if_pos ⟨er, hd, hh⟩] at ex
  have sh1 : zsh X.1 X.2.1 1 := ⟨hX.1.1, hX.1.2.1, h1, by omega, by omega⟩
  have hEY := hY.2.2.1
  rw [← er, hh, hd] at hEY
  have wX := zwf_0 (g := zg0) hX.2.2.1
  have wY : zwf X.1 X.2.1 1 X'.2.2.2.2.2.1 (0, X'.2.2.2.2.2.1, zg0) := zwf_0 hEY
  refine s36 (i := 3) (by omega) (by omega) (by omega) hx.1 hx.2.2.1 (fun T1 f1 f2 => b121_94 ?_)
  have hC1 := zCS_w hC f1 (by omega) (zCX_b hX.1 wX (f2 zg0))
  refine s82 (i := 3) (by omega) hX.1 (f2 zg0) wX (fun t τ eτ P2 T2 q1 q2 q3 => b121_101 ?_) (fun eτ P2 T2 q1 q2 => ?_)
  · have eτ' : zfS (zfr0 X) = some (t, τ) := eτ
    rw [eτ'] at ex
    have ex : zc_solve S a0 a1 a2 = match zsol X X' (t, τ) with
        | none => (.inr 3, S)
        | some none => (.inl 0, S)
        | some (some V) => (.inl 1, zup S k2 (X.1, X.2.2.1, 1, zvm V, (0, zvm V, zg0))) := ex
    obtain ⟨_, w2, w3, w4, _⟩ := zfS_w hX eτ'
    have hC2 := zCS_w hC1 q1 (by omega) (zCX_b hX.1 q3 q2)
    have hy2 := zCS_x hC2 hk1 e'
    rw [← er, hh, hd] at hy2
    refine s36 (i := 4) (by omega) (by omega) (by omega) hy2.1 hy2.2.2.1 (fun T3 g1 g2 => b121_112 ?_)
    have hC3 := zCS_w hC2 g1 (by omega) (zCX_b sh1 wY (g2 zg0))
    have x3 : zCX (T3 3) X.1 X.2.1 X.2.2.1 X.2.2.2.2.2.1 τ := by rw [g1 3 (by omega)]; exact q2
    refine s44 (i := 4) (j := 3) (c := false) (by omega) (by omega) (by omega) sh1 hX.1 (g2 zg0) wY x3 q3 rfl (fun ς eς P4 T4 u1 u2 u3 => b121_124 ?_) (fun eς P4 T4 u1 u2 => ?_)
    · have hC4 := zCS_w hC3 u1 (by omega) (zCX_b sh1 u3 u2)
      have x4 : zCX (T4 3) X.1 X.2.1 X.2.2.1 X.2.2.2.2.2.1 τ := by rw [u1 3 (by omega)]; exact x3
      have es : zsol X X' (t, τ) = match zqs X.1 t τ.2.1 (fun k => ς.2.1 k 0) X.2.1 0 (fun _ => (0, 0)) with
            | none => some none
            | some V => match zvb X.1 τ.2.2 τ.1 V with
              | none => none
              | some V' => some (some V') := by
        unfold zsol
        show (match ztf X.1 X.2.1 1 false τ.2.2 τ.1 0 (some (0, X'.2.2.2.2.2.1, zg0)) with
            | none => none
            | some τ' => _) = _
        rw [show ztf X.1 X.2.1 1 false τ.2.2 τ.1 0 (some (0, X'.2.2.2.2.2.1, zg0)) = some ς from eς]
        rfl
      refine s122 (h := X.2.1) (d := X.2.2.1) hX.1 x4 q3 (zCX_b sh1 u3 u2) u2.1 u2.2.2.1 u3.2.1 w2 w3 w4 (fun V eV P5 T5 y1 y2 y3 y4 y5 => b121_131 (rv := true) ⟨fun _ => ?_, fun h => (by cases h)⟩) (fun eV P5 T5 y1 y2 => b121_131 (rv := false) ⟨fun h => (by cases h), fun _ => ?_⟩)
      · rw [eV] at es
        have es : zsol X X' (t, τ) = match zvb X.1 τ.2.2 τ.1 V with
              | none => none
              | some V' => some (some V') := es
        have hC5 := zCS_w hC4 y1 (by omega) y2
        have x5 : zCX (T5 3) X.1 X.2.1 X.2.2.1 X.2.2.2.2.2.1 τ := by rw [y1 3 (by omega)]; exact x4
        have sh5 : zsh X.1 X.2.2.1 1 := ⟨hX.1.1, hX.1.2.2.2.1, h2, by omega, by omega⟩
        obtain ⟨c1', c2'⟩ := zmb_c (u := 1) τ.1 (zvm V) q3.2.2.2.1
        refine b46 (by omega) ?_
        rw [x5.2.1, zpre_d]
        refine s46 (i := 5) (j := 3) (T0 := T5) (by omega) (by omega) (by omega) sh5 q3 x5 y2 τ.1 (zvm V) P5 T5 (Nat.le_refl _) zTo_r y2 y3 y4 y5 (fun E' eE P6 T6 z1 z2 z3 z4 z5 => b121_147 (by omega) ?_) (fun eE P6 T6 z1 z2 => ?_)
        · obtain ⟨V', eV', hV'⟩ := c1' E' eE 0 (by omega)
          have eV' : zvb X.1 τ.2.2 τ.1 V = some V' := eV'
          rw [eV'] at es
          rw [es] at ex
          have hC6 := zCS_w hC5 z1 (by omega) z2
          have eE' : E' = zvm V' := by
            funext a c
            unfold zvm
            split
            · rename_i hc; rw [hc]; exact (hV' a).symm
            · exact z5.2 a c (by omega)
          refine s36 (j := 5) (by omega) (by omega) (by omega) z3 z4 (fun T7 v1 v2 => b121_156 ?_)
          rw [eE'] at v2 z5
          exact kfin (x := .inl 1) (S' := zup S k2 (X.1, X.2.2.1, 1, zvm V', (0, zvm V', zg0))) H ex T7 _ (zCS_up hC6 v1 (v2 zg0) ⟨sh5, zwf_0 z5⟩) ⟨P6, rfl⟩
        · obtain ⟨c, hc, en⟩ := c2' eE
          have : c = 0 := by omega
          subst this
          have en : zvb X.1 τ.2.2 τ.1 V = none := en
          rw [en] at es
          rw [es] at ex
          exact kfin (x := .inr 3) (S' := S) H ex T6 _ (zCS_w hC5 z1 (by omega) z2) ⟨P6, rfl⟩
      · rw [eV] at es
        rw [es] at ex
        exact kfin (x := .inl 0) (S' := S) H ex T5 _ (zCS_w hC4 y1 (by omega) y2) ⟨P5, rfl⟩
    · have es : zsol X X' (t, τ) = none := by
        unfold zsol
        show (match ztf X.1 X.2.1 1 false τ.2.2 τ.1 0 (some (0, X'.2.2.2.2.2.1, zg0)) with
            | none => none
            | some τ' => _) = _
        rw [show ztf X.1 X.2.1 1 false τ.2.2 τ.1 0 (some (0, X'.2.2.2.2.2.1, zg0)) = none from eς]
      rw [es] at ex
      exact kfin (x := .inr 3) (S' := S) H ex T4 _ (zCS_w hC3 u1 (by omega) u2) ⟨P4, rfl⟩
  · rw [show zfS (zfr0 X) = none from eτ] at ex
    exact kfin (x := .inr 3) (S' := S) H ex T2 _ (zCS_w hC1 q1 (by omega) q2) ⟨P2, rfl⟩
