/-! MULTIPLY: the middle, the reference, the class -/
def zmu (r : Nat) (E F : zMe) (a c : Nat) : Nat → Option zE2
  | 0 => some (0, 0)
  | n + 1 => (zmu r E F a c n).bind (fun s => (zplus r (0, 0) (E a n) (F n c)).bind (fun v => zplus r s (1, 0) v))
def zmuE (r : Nat) (E F : zMe) (n h d : Nat) : Option zMe := if (∀ a, a < h → ∀ c, c < d → (zmu r E F a c n).isSome = true) then some (fun a c => if a < h ∧ c < d then (zmu r E F a c n).getD (0, 0) else (0, 0)) else none
def zc_mul (S : zSs) (a0 a1 a2 : Int32) : (Int32 ⊕ Nat) × zSs := if zslot a0 = false ∨ zslot a1 = false ∨ zslot a2 = false then (.inr 0, S) else match S (znn a0), S (znn a1) with
  | some X, some Y => if X.1 = Y.1 ∧ X.2.2.1 = Y.2.1 then match zmuE X.1 X.2.2.2.2.2.1 Y.2.2.2.2.2.1 X.2.2.1 X.2.1 Y.2.2.1 with
      | none => (.inr 3, S)
      | some E => (.inl (Int32.ofNat Y.2.2.1), zup S (znn a2) (X.1, X.2.1, Y.2.2.1, E, (0, E, zg0))) else (.inr 1, S)
  | _, _ => (.inr 1, S)
theorem zmu_ok {r h d h' d' : Nat} {E F : zMe} (hr : zrg r) (hE : zEw r h d E) (hF : zEw r h' d' F) (a c : Nat) : ∀ n v, zmu r E F a c n = some v → zok r v
  | 0, v, e => by cases e; exact zok_0 hr
  | n + 1, v, e => by
    rw [zmu] at e
    cases e1 : zmu r E F a c n with
    | none => rw [e1] at e; cases e
    | some s =>
      cases e2 : zplus r (0, 0) (E a n) (F n c) with
      | none => rw [e1, e2] at e; cases e
      | some q =>
        rw [e1, e2] at e
        exact zok_plus hr (zmu_ok hr hE hF a c n s e1) (zok_1 hr) (zok_plus hr (zok_0 hr) (hE.1 a n) (hF.1 n c) e2) e
theorem zmuE_w {r h d h' d' : Nat} {E F G : zMe} {n : Nat} (hr : zrg r) (hE : zEw r h d E) (hF : zEw r h' d' F) (e : zmuE r E F n h d' = some G) : zEw r h d' G := by
  unfold zmuE at e
  split at e
  · cases e
    refine ⟨fun i j => ?_, fun i j hij => if_neg (by omega)⟩
    show zok r (if i < h ∧ j < d' then _ else _)
    split
    · cases e1 : zmu r E F i j n with
      | none => exact zok_0 hr
      | some v => exact zmu_ok hr hE hF i j n v e1
    · exact zok_0 hr
  · cases e
/-- multipliesEntry -/
theorem l156 {K : zKt} {code pr pn : Int32} {J : zJt} {vf vs : Nat → Int32} {B : zBt} {w : Nat → Int64} {p : Nat × Nat} {Q : zR → zH → Prop} {β β' r h d d' a c : Nat} {E F : zMe} {m0 : Nat → Int32} {b0 : Bool} (hr : zrg r) (hB : β + 1068 ≤ 3204) (hB' : β' + 1068 ≤ 3204) (ha : a < 4) (hc : c < 4) (hd : d ≤ 4) (hD : m0 (β + 2) = Int32.ofNat d) (hm : zRE m0 (β + 4) E) (hm' : zRE m0 (β' + 4) F) (hE : zEw r h d E) (hF : zEw r d d' F)
    (H : ∀ rf' rs' pa' pb' pc' m' bad', (∀ k, k ≠ 3208 + 8 * a + 2 * c → k ≠ 3208 + 8 * a + 2 * c + 1 → m' k = m0 k) → m' (3208 + 8 * a + 2 * c) = (zres b0 (zmu r E F a c d)).2.1 → m' (3208 + 8 * a + 2 * c + 1) = (zres b0 (zmu r E F a c d)).2.2 → bad' = (zres b0 (zmu r E F a c d)).1 → Q (.inl none) (zh K (code, rf', rs', bad', pr, pn, J) (m', pa', pb', pc', vf, vs, B) w)) :
    ∀ (n x : Nat) (rf rs : Int32) (pa pb pc m : Nat → Int32) (bad : Bool), x + n = d → (∀ k, k ≠ 3208 + 8 * a + 2 * c → k ≠ 3208 + 8 * a + 2 * c + 1 → m k = m0 k) → m (3208 + 8 * a + 2 * c) = (zres b0 (zmu r E F a c x)).2.1 → m (3208 + 8 * a + 2 * c + 1) = (zres b0 (zmu r E F a c x)).2.2 → bad = (zres b0 (zmu r E F a c x)).1 →
    zW zm_156 24 [some (.ref 75), some (.int (Int32.ofNat β)), some (.int (Int32.ofNat β')), some (.int (Int32.ofNat a)), some (.int (Int32.ofNat c)), some (.int (Int32.ofNat r)), some (.int (Int32.ofNat (3208 + 8 * a + 2 * c))), some (.int (Int32.ofNat x)), none, none] [] p (zh K (code, rf, rs, bad, pr, pn, J) (m, pa, pb, pc, vf, vs, B) w) Q := by
  intro n
  induction n with
  | zero =>
    intro x rf rs pa pb pc m bad hx h1 h2 h3 h4
    have : x = d := by omega
    subst this
    refine b156_24 ⟨by omega, fun _ => H rf rs pa pb pc m bad h1 h2 h3 h4, fun hn => absurd ?_ hn⟩
    rw [h1 _ (by omega) (by omega), hD]
    exact (zN_leI (by omega) (by omega)).mpr (Nat.le_refl _)
  | succ n ih =>
    intro x rf rs pa pb pc m bad hx h1 h2 h3 h4
    have e1 := hm a x ha (by omega)
    have e2 := hm' x c (by omega) hc
    refine b156_24 ⟨by omega, fun hn => absurd hn ?_, fun _ => ⟨by omega, by omega, by omega, by omega, ?_⟩⟩
    · rw [h1 _ (by omega) (by omega), hD, zN_leI (by omega) (by omega)]
      omega
    rw [h1 (β + 4 + 8 * a + 2 * x) (by omega) (by omega), h1 (β + 4 + 8 * a + 2 * x + 1) (by omega) (by omega), h1 (β' + 4 + 8 * x + 2 * c) (by omega) (by omega), h1 (β' + 4 + 8 * x + 2 * c + 1) (by omega) (by omega), e1.1, e1.2, e2.1, e2.2]
    have vok : zok r ((zres b0 (zmu r E F a c x)).2.1, (zres b0 (zmu r E F a c x)).2.2) := by
      cases b0 with
      | true => exact zok_0 hr
      | false =>
        cases hz : zmu r E F a c x with
        | none => exact zok_0 hr
        | some v => exact zmu_ok hr hE hF a c x v hz
    refine s157 hr (zok_0 hr) (hE.1 a x) (hF.1 x c) (fun pa1 pb1 pc1 => b156_96 ⟨by omega, by omega, ?_⟩)
    have pok : zok r ((zres bad (zplus r (0, 0) (E a x) (F x c))).2.1, (zres bad (zplus r (0, 0) (E a x) (F x c))).2.2) := by
      cases bad with
      | true => exact zok_0 hr
      | false =>
        cases hz : zplus r (0, 0) (E a x) (F x c) with
        | none => exact zok_0 hr
        | some v => exact zok_plus hr (zok_0 hr) (hE.1 a x) (hF.1 x c) hz
    rw [h2, h3]
    refine s157 hr vok (zok_1 hr) pok (fun pa2 pb2 pc2 => b156_128 ⟨by omega, ?_⟩)
    have key : zres (zres bad (zplus r (0, 0) (E a x) (F x c))).1 (zplus r ((zres b0 (zmu r E F a c x)).2.1, (zres b0 (zmu r E F a c x)).2.2) (1, 0) ((zres bad (zplus r (0, 0) (E a x) (F x c))).2.1, (zres bad (zplus r (0, 0) (E a x) (F x c))).2.2)) = zres b0 (zmu r E F a c (x + 1)) := by
      rw [h4]
      cases b0 with
      | true => rfl
      | false =>
        rw [zmu]
        cases hz : zmu r E F a c x with
        | none => rfl
        | some v =>
          cases hy : zplus r (0, 0) (E a x) (F x c) with
          | none => rfl
          | some q => rfl
    refine ih (x + 1) _ _ _ _ _ _ _ (by omega) (fun k hk1 hk2 => ?_) ?_ ?_ ?_
    · rw [zu2_n hk1 hk2]; exact h1 k hk1 hk2
    · rw [zu2_0, ← key]
    · rw [zu2_1, ← key]
    · rw [← key]
def zMI (m0 m : Nat → Int32) (bad : Bool) (r : Nat) (E F : zMe) (n h d x y : Nat) : Prop := (∀ k, (k < 3208 ∨ 3240 ≤ k) → m k = m0 k) ∧ (∀ a c, a < 4 → c < 4 → ¬ (c < d ∧ (a < x ∨ (a = x ∧ c < y))) → m (3208 + 8 * a + 2 * c) = 0 ∧ m (3208 + 8 * a + 2 * c + 1) = 0) ∧
  (bad = false → ∀ a c, a < 4 → c < d → (a < x ∨ (a = x ∧ c < y)) → ∃ v, zmu r E F a c n = some v ∧ m (3208 + 8 * a + 2 * c) = v.1 ∧ m (3208 + 8 * a + 2 * c + 1) = v.2) ∧ (bad = true → ∃ a c, a < h ∧ c < d ∧ zmu r E F a c n = none)
theorem zMI_row {m0 m : Nat → Int32} {bad : Bool} {r n h d x : Nat} {E F : zMe} (hv : zMI m0 m bad r E F n h d x d) : zMI m0 m bad r E F n h d (x + 1) 0 :=
  ⟨hv.1, fun a c ha hc hn => hv.2.1 a c ha hc (by omega), fun hb a c ha hc hn => hv.2.2.1 hb a c ha hc (by omega), hv.2.2.2⟩
theorem zMI_cell {m0 m m' : Nat → Int32} {bad : Bool} {r n h d x y : Nat} {E F : zMe} (hx : x < h) (hh : h ≤ 4) (hy : y < d) (hd : d ≤ 4) (hv : zMI m0 m bad r E F n h d x y) (h1 : ∀ k, k ≠ 3208 + 8 * x + 2 * y → k ≠ 3208 + 8 * x + 2 * y + 1 → m' k = m k) (h2 : m' (3208 + 8 * x + 2 * y) = (zres bad (zmu r E F x y n)).2.1) (h3 : m' (3208 + 8 * x + 2 * y + 1) = (zres bad (zmu r E F x y n)).2.2) :
    zMI m0 m' (zres bad (zmu r E F x y n)).1 r E F n h d x (y + 1) := by
  obtain ⟨v1, v2, v3, v4⟩ := hv
  refine ⟨fun k hk => ?_, fun a c ha hc hn => ?_, fun hb => ?_, fun hb => ?_⟩
  · rw [h1 k (by omega) (by omega)]; exact v1 k hk
  · rw [h1 _ (by omega) (by omega), h1 _ (by omega) (by omega)]
    exact v2 a c ha hc (by omega)
  · cases hbd : bad with
    | true => rw [hbd] at hb; cases hb
    | false =>
      rw [hbd] at hb h2 h3
      cases he : zmu r E F x y n with
      | none => rw [he] at hb; cases hb
      | some v =>
        rw [he] at h2 h3
        intro a c ha hc hac
        by_cases hxy : a = x ∧ c = y
        · obtain ⟨rfl, rfl⟩ := hxy
          exact ⟨v, he, h2, h3⟩
        · rw [h1 _ (by omega) (by omega), h1 _ (by omega) (by omega)]
          exact v3 hbd a c ha hc (by omega)
  · cases hbd : bad with
    | true => exact v4 hbd
    | false =>
      rw [hbd] at hb
      cases he : zmu r E F x y n with
      | none => exact ⟨x, y, hx, hy, he⟩
      | some v => rw [he] at hb; cases hb
theorem l155c {K : zKt} {code pr pn : Int32} {J : zJt} {vf vs : Nat → Int32} {B : zBt} {w : Nat → Int64} {p : Nat × Nat} {Q : zR → zH → Prop} {k2 β β' r h n d x : Nat} {E F : zMe} {m0 : Nat → Int32} (hr : zrg r) (hx : x < h) (hh : h ≤ 4) (hd : d ≤ 4) (hn : n ≤ 4) (hB : β + 1068 ≤ 3204) (hB' : β' + 1068 ≤ 3204) (h0 : m0 β = Int32.ofNat r) (hN : m0 (β + 2) = Int32.ofNat n) (hD : m0 (β' + 2) = Int32.ofNat d) (hm : zRE m0 (β + 4) E) (hm' : zRE m0 (β' + 4) F) (hE : zEw r h n E) (hF : zEw r n d F)
    (H : ∀ rf' rs' pa' pb' pc' m' bad', zMI m0 m' bad' r E F n h d (x + 1) 0 → zW zm_155 152 [some (.ref 75), none, none, some (.int (Int32.ofNat k2)), some (.int (Int32.ofNat β)), some (.int (Int32.ofNat β')), some (.int (Int32.ofNat (x + 1))), none] [] p (zh K (code, rf', rs', bad', pr, pn, J) (m', pa', pb', pc', vf, vs, B) w) Q) :
    ∀ (t y : Nat) (rf rs : Int32) (pa pb pc m : Nat → Int32) (bad : Bool), y + t = d → zMI m0 m bad r E F n h d x y →
    zW zm_155 169 [some (.ref 75), none, none, some (.int (Int32.ofNat k2)), some (.int (Int32.ofNat β)), some (.int (Int32.ofNat β')), some (.int (Int32.ofNat x)), some (.int (Int32.ofNat y))] [] p (zh K (code, rf, rs, bad, pr, pn, J) (m, pa, pb, pc, vf, vs, B) w) Q := by
  intro t
  induction t with
  | zero =>
    intro y rf rs pa pb pc m bad hy hv
    have : y = d := by omega
    subst this
    refine b155_169 ⟨by omega, fun _ => H rf rs pa pb pc m bad (zMI_row hv), fun hq => absurd ?_ hq⟩
    rw [hv.1 _ (by omega), hD]
    exact (zN_leI (by omega) (by omega)).mpr (Nat.le_refl _)
  | succ t ih =>
    intro y rf rs pa pb pc m bad hy hv
    have hc := hv.2.1 x y (by omega) (by omega) (by omega)
    refine b155_169 ⟨by omega, fun hq => absurd hq ?_, fun _ => b156 ⟨by omega, ?_⟩⟩
    · rw [hv.1 _ (by omega), hD, zN_leI (by omega) (by omega)]; omega
    rw [show m (β + 0) = Int32.ofNat r from (hv.1 _ (by omega)).trans h0]
    refine l156 (b0 := bad) (m0 := m) (h := h) (d := n) (d' := d) hr hB hB' (by omega) (by omega) hn ((hv.1 _ (by omega)).trans hN) (zRE_eq (fun k _ _ => hv.1 k (by omega)) hm) (zRE_eq (fun k _ _ => hv.1 k (by omega)) hm') hE hF (fun rf' rs' pa' pb' pc' m' bad' g1 g2 g3 g4 => b155_195 ?_) n 0 rf rs pa pb pc m bad (by omega) (fun k _ _ => rfl) ?_ ?_ ?_
    · subst g4
      exact ih (y + 1) _ _ _ _ _ _ _ (by omega) (zMI_cell hx hh (by omega) hd hv g1 g2 g3)
    · rw [hc.1]; cases bad <;> rfl
    · rw [hc.2]; cases bad <;> rfl
    · cases bad <;> rfl
theorem l155 {K : zKt} {code pr pn : Int32} {J : zJt} {vf vs : Nat → Int32} {B : zBt} {w : Nat → Int64} {p : Nat × Nat} {Q : zR → zH → Prop} {k2 β β' r h n d : Nat} {E F : zMe} {m0 : Nat → Int32} (hr : zrg r) (hh : h ≤ 4) (hd : d ≤ 4) (hn : n ≤ 4) (hB : β + 1068 ≤ 3204) (hB' : β' + 1068 ≤ 3204) (h0 : m0 β = Int32.ofNat r) (hH : m0 (β + 1) = Int32.ofNat h) (hN : m0 (β + 2) = Int32.ofNat n) (hD : m0 (β' + 2) = Int32.ofNat d) (hm : zRE m0 (β + 4) E) (hm' : zRE m0 (β' + 4) F) (hE : zEw r h n E) (hF : zEw r n d F)
    (H : ∀ rf' rs' pa' pb' pc' m' bad', zMI m0 m' bad' r E F n h d h 0 → zT zm_146 [.ref 75, .int (3204 : Int32)] p (zh K (code, rf', rs', bad', pr, pn, J) (m', pa', pb', pc', vf, vs, B) w) (zK zm_155 214 [some (.ref 75), none, none, some (.int (Int32.ofNat k2)), none, none, none, none] [] p Q)) :
    ∀ (t x : Nat) (rf rs : Int32) (pa pb pc m : Nat → Int32) (bad : Bool), x + t = h → zMI m0 m bad r E F n h d x 0 →
    zW zm_155 152 [some (.ref 75), none, none, some (.int (Int32.ofNat k2)), some (.int (Int32.ofNat β)), some (.int (Int32.ofNat β')), some (.int (Int32.ofNat x)), none] [] p (zh K (code, rf, rs, bad, pr, pn, J) (m, pa, pb, pc, vf, vs, B) w) Q := by
  intro t
  induction t with
  | zero =>
    intro x rf rs pa pb pc m bad hx hv
    have : x = h := by omega
    subst this
    refine b155_152 ⟨by omega, fun _ => H rf rs pa pb pc m bad hv, fun hq => absurd ?_ hq⟩
    rw [hv.1 _ (by omega), hH]
    exact (zN_leI (by omega) (by omega)).mpr (Nat.le_refl _)
  | succ t ih =>
    intro x rf rs pa pb pc m bad hx hv
    refine b155_152 ⟨by omega, fun hq => absurd hq ?_, fun _ => l155c hr (show x < h by omega) hh hd hn hB hB' h0 hN hD hm hm' hE hF (fun rf' rs' pa' pb' pc' m' bad' hv' => ih (x + 1) _ _ _ _ _ _ _ (by omega) hv') d 0 rf rs pa pb pc m bad (by omega) hv⟩
    rw [hv.1 _ (by omega), hH, zN_leI (by omega) (by omega)]; omega
theorem r_mul {K : zKt} {code rf rs pr pn : Int32} {bad : Bool} {J : zJt} {m pa pb pc vf vs : Nat → Int32} {B : zBt} {w : Nat → Int64} {p : Nat × Nat} {Q : zR → zH → Prop} {S : zSs} {a0 a1 a2 : Int32} (hw : zSw S) (hR : zRS m S) (H : ∀ m' h', zRS m' (zc_mul S a0 a1 a2).2 → zRH K J B w m' (zcd [0, 1, 3] (zc_mul S a0 a1 a2).1) h' → Q (.inl (some (.int (zrv (zc_mul S a0 a1 a2).1)))) h') : zT zm_155 [.ref 75, .int a0, .int a1, .int a2] p (zh K (code, rf, rs, bad, pr, pn, J) (m, pa, pb, pc, vf, vs, B) w) Q := by
  have bad0 : (zslot a0 = false ∨ zslot a1 = false ∨ zslot a2 = false) → Q (.inl (some (.int (0 : Int32)))) (zh K ((1 : Int32), rf, rs, bad, pr, pn, J) (m, pa, pb, pc, vf, vs, B) w) := by
    intro c
    exact zfin (S := S) (x := .inr 0) (S' := S) H (by rw [zc_mul, if_pos c]) m _ hR ⟨_, _, _, _, _, _, _, _, _, _, rfl⟩
  refine b155 ⟨fun c0 => bad0 (Or.inl c0), fun c0 k0 hk0 ek0 => ⟨fun c1 => bad0 (Or.inr (Or.inl c1)), fun c1 k1 hk1 ek1 => ⟨fun c2 k2 hk2 ek2 => ⟨by omega, fun c => ?_, fun c => ⟨by omega, fun c' => ?_, fun c' => ?_⟩⟩, fun c2 => bad0 (Or.inr (Or.inr c2))⟩⟩⟩
  · exact zfin (S := S) (x := .inr 1) (S' := S) H (by rw [zc_mul, if_neg (by rw [c0, c1, c2]; decide), ek0, znn_o (by omega), zRS_n hR hw hk0 c]) m _ hR ⟨_, _, _, _, _, _, _, _, _, _, rfl⟩
  · exact zfin (S := S) (x := .inr 1) (S' := S) H (by
      rw [zc_mul, if_neg (by rw [c0, c1, c2]; decide), ek1, znn_o (k := k1) (by omega), zRS_n hR hw hk1 c']
      cases S (znn a0) <;> rfl) m _ hR ⟨_, _, _, _, _, _, _, _, _, _, rfl⟩
  obtain ⟨X, e⟩ := zRS_s hR hw hk0 c
  obtain ⟨Y, e'⟩ := zRS_s hR hw hk1 c'
  have hX := hw k0 X hk0 e
  have hY := hw k1 Y hk1 e'
  have hb := zRS_b hR hk0 e
  have hb' := zRS_b hR hk1 e'
  have hr1 := zrg_lt hX.1.1
  have hr2 := zrg_lt hY.1.1
  have h1 := hX.1.2.2.1
  have h2 := hX.1.2.2.2.2
  have h3 := hY.1.2.2.1
  have h4 := hY.1.2.2.2.2
  have ex : zc_mul S a0 a1 a2 = if X.1 = Y.1 ∧ X.2.2.1 = Y.2.1 then (match zmuE X.1 X.2.2.2.2.2.1 Y.2.2.2.2.2.1 X.2.2.1 X.2.1 Y.2.2.1 with
      | none => (.inr 3, S)
      | some E => (.inl (Int32.ofNat Y.2.2.1), zup S k2 (X.1, X.2.1, Y.2.2.1, E, (0, E, zg0)))) else (.inr 1, S) := by
    rw [zc_mul, if_neg (by rw [c0, c1, c2]; decide), ek0, ek1, ek2, znn_o (by omega), znn_o (by omega), znn_o (k := k2) (by omega), e, e']
  have bad1 : ¬ (X.1 = Y.1 ∧ X.2.2.1 = Y.2.1) → Q (.inl (some (.int (0 : Int32)))) (zh K ((2 : Int32), rf, rs, bad, pr, pn, J) (m, pa, pb, pc, vf, vs, B) w) := by
    intro hn
    exact zfin (S := S) (x := .inr 1) (S' := S) H (by rw [ex, if_neg hn]) m _ hR ⟨_, _, _, _, _, _, _, _, _, _, rfl⟩
  rw [show m (1068 * k0 + 0) = Int32.ofNat X.1 from hb.1.1, show m (1068 * k1 + 0) = Int32.ofNat Y.1 from hb'.1.1, hb.1.2.1, hb.1.2.2, hb'.1.2.1, hb'.1.2.2]
  refine ⟨by omega, by omega, fun hn => bad1 (fun g => hn (by rw [g.1])), fun er => ⟨by omega, by omega, fun ed => ⟨by omega, by omega, ?_⟩, fun hn => bad1 (fun g => hn (by rw [g.2]))⟩⟩
  have er' := zN_inj (by omega) (by omega) er
  have ed' := zN_inj (by omega) (by omega) ed
  rw [if_pos ⟨er', ed'⟩] at ex
  have hEX := hX.2.2.1
  have hEY := hY.2.2.1
  rw [← er', ← ed'] at hEY
  refine s145 (β := 3204) (by omega) (fun m1 f1 f2 => b155_149 ?_)
  have hR1 := zRS_fr hR hw f1 (by omega)
  have g1 := zRS_b hR1 hk0 e
  have g2 := zRS_b hR1 hk1 e'
  have z3 := (f2 zg0).2.2.1
  refine l155 (m0 := m1) (r := X.1) (h := X.2.1) (n := X.2.2.1) (d := Y.2.2.1) hX.1.1 (by omega) (by omega) (by omega) (by omega) (by omega) g1.1.1 g1.1.2.1 g1.1.2.2 g2.1.2.2 g1.2.2.1 g2.2.2.1 hEX hEY (fun rf' rs' pa' pb' pc' m2 bad2 hv => ?_) X.2.1 0 rf rs pa pb pc m1 false (by omega) ⟨fun k _ => rfl, fun a c ha hc _ => z3 a c ha hc, fun _ a c ha hc hn => (by omega), fun hh => (by cases hh)⟩
  have hf12 : zfr 3204 m1 m2 := fun k hk => hv.1 k (by omega)
  have hR2 := zRS_fr hR1 hw hf12 (by omega)
  refine s146 (β := 3204) (r := X.1) (h := X.2.1) (d := Y.2.2.1) (E := fun a c => (m2 (3208 + 8 * a + 2 * c), m2 (3208 + 8 * a + 2 * c + 1))) (by omega) (zRh_eq (fun k _ _ => hv.1 k (by omega)) (f2 zg0).1) (fun a c _ _ => ⟨rfl, rfl⟩) (fun m3 f3 f4 => b155_214 ?_)
  have hR3 := zRS_fr hR2 hw f3 (by omega)
  rw [show m3 3206 = Int32.ofNat Y.2.2.1 from (f4 zg0).1.2.2]
  refine s162 hk2 (fun hb2 m4 q1 q2 => b155_228 ?_) (fun hb2 => b155_228 ?_)
  · have hall : ∀ a, a < X.2.1 → ∀ c, c < Y.2.2.1 → (zmu X.1 X.2.2.2.2.2.1 Y.2.2.2.2.2.1 a c X.2.2.1).isSome = true := fun a ha c hc => by
      obtain ⟨v, ev, _⟩ := hv.2.2.1 hb2 a c (by omega) hc (Or.inl ha)
      rw [ev]; rfl
    have ez : zmuE X.1 X.2.2.2.2.2.1 Y.2.2.2.2.2.1 X.2.2.1 X.2.1 Y.2.2.1 = some (fun a c => if a < X.2.1 ∧ c < Y.2.2.1 then (zmu X.1 X.2.2.2.2.2.1 Y.2.2.2.2.2.1 a c X.2.2.1).getD (0, 0) else (0, 0)) := by
      unfold zmuE
      rw [if_pos hall]
    rw [ez] at ex
    refine zfin (S := S) H ex m4 _ (zRS_up hR3 hw q1 (zRb_cp q2 (Nat.zero_le 200) ?_)) ⟨_, _, _, _, _, _, _, _, _, _, rfl⟩
    have hcell : ∀ a c, a < 4 → c < 4 → (m2 (3208 + 8 * a + 2 * c), m2 (3208 + 8 * a + 2 * c + 1)) = (if a < X.2.1 ∧ c < Y.2.2.1 then (zmu X.1 X.2.2.2.2.2.1 Y.2.2.2.2.2.1 a c X.2.2.1).getD (0, 0) else (0, 0)) := by
      intro a c ha hc
      by_cases hac : a < X.2.1 ∧ c < Y.2.2.1
      · obtain ⟨v, ev, e1, e2⟩ := hv.2.2.1 hb2 a c (by omega) hac.2 (Or.inl hac.1)
        rw [if_pos hac, ev, e1, e2]; rfl
      · obtain ⟨e1, e2⟩ := hv.2.1 a c ha hc (by omega)
        rw [if_neg hac, e1, e2]
    obtain ⟨u1, u2, u3, u4, u5⟩ := f4 zg0
    refine ⟨u1, u2, fun a c ha hc => ?_, fun a c ha hc => ?_, fun k hk => absurd hk (Nat.not_lt_zero k)⟩
    · exact ⟨(u3 a c ha hc).1.trans (congrArg Prod.fst (hcell a c ha hc)), (u3 a c ha hc).2.trans (congrArg Prod.snd (hcell a c ha hc))⟩
    · exact ⟨(u4 a c ha hc).1.trans (congrArg Prod.fst (hcell a c ha hc)), (u4 a c ha hc).2.trans (congrArg Prod.snd (hcell a c ha hc))⟩
  · obtain ⟨a, c, ha, hc, en⟩ := hv.2.2.2 hb2
    have ez : zmuE X.1 X.2.2.2.2.2.1 Y.2.2.2.2.2.1 X.2.2.1 X.2.1 Y.2.2.1 = none := by
      unfold zmuE
      rw [if_neg (fun hall => by have := hall a ha c hc; rw [en] at this; cases this)]
    rw [ez] at ex
    exact zfin (S := S) H ex m3 _ hR3 ⟨_, _, _, _, _, _, _, _, _, _, rfl⟩
/-- productEntry -/
theorem s103 {P : zPt} {T : Nat → zX} {Y : zYt} {I : zIt} {A : zAt} {w : Nat → Int64} {p : Nat × Nat} {Q : zR → zH → Prop} {i j a c r h n d : Nat} {E F : zMe} (hi : i < 6) (hj : j < 6) (hsh : zsh r h n) (hXi : zXb (T i)) (hXj : zXb (T j)) (hh : zCh (T i) r h n) (hh' : zCh (T j) r n d) (he : zCe (T i).2.2.2.2.1 E) (hf : zCe (T j).2.2.2.2.1 F) (hE : zEw r h n E) (hF : zEw r n d F) (ha : a < 4) (hc : c < 4)
    (H1 : ∀ v, zmu r E F a c n = some v → ∀ P', Q (.inl (some (.long (zen v)))) (zh (P', T, Y) I A w)) (H2 : zmu r E F a c n = none → ∀ P', Q (.inr 3) (zh (P', T, Y) I A w)) : zT zm_103 [.ref (21 + 8 * i), .ref (21 + 8 * j), .int (Int32.ofNat a), .int (Int32.ofNat c)] p (zh (P, T, Y) I A w) Q := by
  have hn4 := hsh.2.2.2.2
  have none_le : ∀ t k, zmu r E F a c k = none → zmu r E F a c (k + t) = none := by
    intro t
    induction t with
    | zero => exact fun k e => e
    | succ t ih => exact fun k e => by rw [← Nat.add_assoc, zmu, ih k e]; rfl
  have lp : ∀ (t x : Nat) (v : zE2) P, x + t = n → zmu r E F a c x = some v → zW zm_103 12 [some (.ref (21 + 8 * i)), some (.ref (21 + 8 * j)), some (.int (Int32.ofNat a)), some (.int (Int32.ofNat c)), some (.ref (zra r)), some (.long (zen v)), none, some (.int (Int32.ofNat x)), none, none] [] p (zh (P, T, Y) I A w) Q := by
    intro t
    induction t with
    | zero =>
      intro x v P hx hv
      have : x = n := by omega
      subst this
      refine b103_12 hi hj ⟨by omega, by rw [hh.2.2]; omega, fun _ => H1 v hv P, fun h => ?_⟩
      rw [hh.2.2] at h
      omega
    | succ t ih =>
      intro x v P hx hv
      refine b103_12 hi hj ⟨by omega, by rw [hh.2.2]; omega, fun h => ?_, fun _ => ⟨hXi, hXj, ?_⟩⟩
      · rw [hh.2.2] at h; omega
      rw [zxat_e hXi hh he hE (by omega) (by omega), zxat_e hXj hh' hf hF (by omega) (by omega)]
      have fail : ∀ P', zmu r E F a c (x + 1) = none → Q (.inr 3) (zh (P', T, Y) I A w) := fun P' e => H2 (by have := none_le t (x + 1) e; rw [show x + 1 + t = n by omega] at this; exact this) P'
      refine c_mul hsh.1 (hE.1 a x) (hF.1 x c) (fun q eq P1 => b103_40 ?_) (fun eq P1 => fail P1 (by rw [zmu, hv, eq]; rfl))
      rw [← zen_1]
      refine c_plus hsh.1 (zmu_ok hsh.1 hE hF a c x v hv) (zok_1 hsh.1) (zok_plus hsh.1 (zok_0 hsh.1) (hE.1 a x) (hF.1 x c) eq) (fun u eu P2 => b103_54 (ih (x + 1) u P2 (by omega) (by rw [zmu, hv, eq]; exact eu))) (fun eu P2 => fail P2 (by rw [zmu, hv, eq]; exact eu))
  have b := b103 (P := P) (p := p) (Y := Y) (I := I) (A := A) (w := w) (Q := Q) (T := T) (i := i) (j := j) (a2 := a) (a3 := c) hi
  rw [hh.1] at b
  have l0 := lp n 0 (0, 0) P (by omega) rfl
  rw [zen_0] at l0
  exact b l0
/-- the cells of a product that are done -/
def zmP (r : Nat) (E F : zMe) (n d x y : Nat) : zMe := fun a c => if c < d ∧ (a < x ∨ (a = x ∧ c < y)) then (zmu r E F a c n).getD (0, 0) else (0, 0)
def zCP (T0 T : Nat → zX) (r : Nat) (E F : zMe) (n h d x y : Nat) : Prop := zTo 3 T0 T ∧ zXb (T 3) ∧ zCh (T 3) r h d ∧ zCe (T 3).2.2.2.2.1 (zmP r E F n d x y) ∧ ∀ a c, a < h → c < d → (a < x ∨ (a = x ∧ c < y)) → (zmu r E F a c n).isSome = true
theorem zCP_row {T0 T : Nat → zX} {r n h d x : Nat} {E F : zMe} (hv : zCP T0 T r E F n h d x d) : zCP T0 T r E F n h d (x + 1) 0 := by
  have e : zmP r E F n d (x + 1) 0 = zmP r E F n d x d := by
    funext a c
    unfold zmP
    by_cases hc : c < d ∧ (a < x ∨ (a = x ∧ c < d))
    · rw [if_pos hc, if_pos (by omega)]
    · rw [if_neg hc, if_neg (by omega)]
  refine ⟨hv.1, hv.2.1, hv.2.2.1, by rw [e]; exact hv.2.2.2.1, fun a c ha hc hn => hv.2.2.2.2 a c ha hc (by omega)⟩
theorem k_mul {P : zPt} {T : Nat → zX} {Y : zYt} {I : zIt} {A : zAt} {w : Nat → Int64} {p : Nat × Nat} {Q : zR → zH → Prop} {S : zSs} {a0 a1 a2 : Int32} (hw : zSw S) (hC : zCS T S) (H : ∀ T' h', zCS T' (zc_mul S a0 a1 a2).2 → zCH Y I A w T' h' → Q (zRo (zc_mul S a0 a1 a2).1) h') : zT zm_102 [.ref 0, .int a0, .int a1, .int a2] p (zh (P, T, Y) I A w) Q := by
  have bad0 : (zslot a0 = false ∨ zslot a1 = false ∨ zslot a2 = false) → Q (.inr 0) (zh (P, T, Y) I A w) := fun c => kfin (x := .inr 0) (S' := S) H (by rw [zc_mul, if_pos c]) T _ hC ⟨P, rfl⟩
  refine b102 ⟨fun c2 k2 hk2 ek2 => ⟨fun c0 k0 hk0 ek0 => ⟨fun c1 k1 hk1 ek1 => ⟨by have := (hC.2 k0).1; omega, ?_⟩, fun c1 => bad0 (Or.inr (Or.inl c1))⟩, fun c0 => bad0 (Or.inl c0)⟩, fun c2 => bad0 (Or.inr (Or.inr c2))⟩
  rw [zCS_0 hC hw hk0, zCS_0 hC hw hk1]
  have hslots : ¬ (zslot a0 = false ∨ zslot a1 = false ∨ zslot a2 = false) := by rw [c0, c1, c2]; decide
  refine ⟨fun c => ?_, fun c => ⟨by have := (hC.2 k1).1; omega, fun c' => ?_, fun c' => ?_⟩⟩
  · exact kfin (x := .inr 1) (S' := S) H (by rw [zc_mul, if_neg hslots, ek0, znn_o (by omega), Option.isNone_iff_eq_none.mp c]) T _ hC ⟨P, rfl⟩
  · exact kfin (x := .inr 1) (S' := S) H (by
      rw [zc_mul, if_neg hslots, ek1, znn_o (k := k1) (by omega), Option.isNone_iff_eq_none.mp c']
      cases S (znn a0) <;> rfl) T _ hC ⟨P, rfl⟩
  cases e : S k0 with
  | none => rw [e] at c; cases c
  | some X =>
  cases e' : S k1 with
  | none => rw [e'] at c'; cases c'
  | some X' =>
  have hX := hw k0 X hk0 e
  have hY := hw k1 X' hk1 e'
  have hx := zCS_x hC hk0 e
  have hy := zCS_x hC hk1 e'
  have er1 : zrno (T k0).1 = X.1 := by
    rw [hx.1.1]
    rcases hX.1.1 with h | h | h | h | h | h <;> rw [h] <;> rfl
  have er2 : zrno (T k1).1 = X'.1 := by
    rw [hy.1.1]
    rcases hY.1.1 with h | h | h | h | h | h <;> rw [h] <;> rfl
  have h1 := hX.1.2.2.1
  have h2 := hX.1.2.2.2.2
  have h3 := hY.1.2.2.1
  have h4 := hY.1.2.2.2.2
  have ex : zc_mul S a0 a1 a2 = if X.1 = X'.1 ∧ X.2.2.1 = X'.2.1 then (match zmuE X.1 X.2.2.2.2.2.1 X'.2.2.2.2.2.1 X.2.2.1 X.2.1 X'.2.2.1 with
      | none => (.inr 3, S)
      | some E => (.inl (Int32.ofNat X'.2.2.1), zup S k2 (X.1, X.2.1, X'.2.2.1, E, (0, E, zg0)))) else (.inr 1, S) := by
    rw [zc_mul, if_neg hslots, ek0, ek1, ek2, znn_o (by omega), znn_o (by omega), znn_o (k := k2) (by omega), e, e']
  have bad1 : ¬ (X.1 = X'.1 ∧ X.2.2.1 = X'.2.1) → Q (.inr 1) (zh (P, T, Y) I A w) := fun hn => kfin (x := .inr 1) (S' := S) H (by rw [ex, if_neg hn]) T _ hC ⟨P, rfl⟩
  rw [er1, er2, hx.1.2.2, hy.1.2.1, hx.1.1, hx.1.2.1, hy.1.2.2]
  refine ⟨fun hn => bad1 (fun g => (of_decide_eq_false hn) g.1), fun hr => ⟨by omega, by omega, fun hn => bad1 (fun g => hn g.2), fun hd => ?_⟩⟩
  have hr' := of_decide_eq_true hr
  rw [if_pos ⟨hr', hd⟩] at ex
  have hE := hX.2.2.1
  have hF := hY.2.2.1
  rw [← hr', ← hd] at hF
  have hyh := hy.1
  rw [← hr', ← hd] at hyh
  have fail : ∀ P' T' a c, a < X.2.1 → c < X'.2.2.1 → zmu X.1 X.2.2.2.2.2.1 X'.2.2.2.2.2.1 a c X.2.2.1 = none → zCS T' S → Q (.inr 3) (zh (P', T', Y) I A w) := by
    intro P' T' a c ha hc en hT
    have ez : zmuE X.1 X.2.2.2.2.2.1 X'.2.2.2.2.2.1 X.2.2.1 X.2.1 X'.2.2.1 = none := by
      unfold zmuE
      rw [if_neg (fun hall => by have := hall a ha c hc; rw [en] at this; cases this)]
    rw [ez] at ex
    exact kfin H ex T' _ hT ⟨P', rfl⟩
  have lc : ∀ x, x < X.2.1 → (∀ P T1, zCP T T1 X.1 X.2.2.2.2.2.1 X'.2.2.2.2.2.1 X.2.2.1 X.2.1 X'.2.2.1 (x + 1) 0 → zW zm_102 93 [some (.ref 0), none, none, none, some (.ref (21 + 8 * k2)), some (.ref (21 + 8 * k0)), some (.ref (21 + 8 * k1)), some (.int (Int32.ofNat (x + 1))), none] [] p (zh (P, T1, Y) I A w) Q) →
      ∀ t y P T1, y + t = X'.2.2.1 → zCP T T1 X.1 X.2.2.2.2.2.1 X'.2.2.2.2.2.1 X.2.2.1 X.2.1 X'.2.2.1 x y → zW zm_102 106 [some (.ref 0), none, none, none, some (.ref (21 + 8 * k2)), some (.ref (21 + 8 * k0)), some (.ref (21 + 8 * k1)), some (.int (Int32.ofNat x)), some (.int (Int32.ofNat y))] [] p (zh (P, T1, Y) I A w) Q := by
    intro x hx4 K1 t
    induction t with
    | zero =>
      intro y P T1 hyt hv
      have : y = X'.2.2.1 := by omega
      subst this
      have et : (T1 k1).2.2.1 = X'.2.2.1 := by rw [hv.1 k1 (by omega)]; exact hy.1.2.2
      refine b102_106 (by omega) ⟨by omega, by rw [et]; omega, fun _ => K1 P T1 (zCP_row hv), fun h => ?_⟩
      rw [et] at h
      omega
    | succ t ih =>
      intro y P T1 hyt hv
      have et : (T1 k1).2.2.1 = X'.2.2.1 := by rw [hv.1 k1 (by omega)]; exact hy.1.2.2
      refine b102_106 (by omega) ⟨by omega, by rw [et]; omega, fun h => ?_, fun _ => ?_⟩
      · rw [et] at h; omega
      have t0 : T1 k0 = T k0 := hv.1 k0 (by omega)
      have t1 : T1 k1 = T k1 := hv.1 k1 (by omega)
      have hCT : zCS T1 S := zCS_w hC hv.1 (by omega) hv.2.1
      refine s103 (r := X.1) (h := X.2.1) (n := X.2.2.1) (d := X'.2.2.1) (E := X.2.2.2.2.2.1) (F := X'.2.2.2.2.2.1) (by omega) (by omega) hX.1 (hCT.2 k0) (hCT.2 k1) (by rw [t0]; exact hx.1) (by rw [t1]; exact hyh) (by rw [t0]; exact hx.2.2.1) (by rw [t1]; exact hy.2.2.1) hE hF (by omega) (by omega) (fun v ev P2 => b102_135 ?_) (fun en P2 => fail P2 T1 x y hx4 (by omega) en hCT)
      refine s32 (by omega) hv.2.1 hv.2.2.1 hx4 (by omega) (b102_138 (ih (y + 1) P2 _ (by omega) ⟨fun k hk => ?_, ?_, ?_, ?_, fun a c ha hc hn => ?_⟩))
      · rw [va_up_ne _ _ hk]; exact hv.1 k hk
      · rw [va_up_self]; exact hv.2.1
      · rw [va_up_self]; exact hv.2.2.1
      · rw [va_up_self]
        intro a c ha hc
        show va_up (T1 3).2.2.2.2.1 (x * 4 + y) (zen v) (a * 4 + c) = _
        by_cases hac : a = x ∧ c = y
        · obtain ⟨rfl, rfl⟩ := hac
          rw [va_up_self]
          unfold zmP
          rw [if_pos (by omega), ev]; rfl
        · rw [va_up_ne _ _ (by omega), hv.2.2.2.1 a c ha hc]
          unfold zmP
          by_cases hq : c < X'.2.2.1 ∧ (a < x ∨ (a = x ∧ c < y))
          · rw [if_pos hq, if_pos (by omega)]
          · rw [if_neg hq, if_neg (by omega)]
      · by_cases hac : a = x ∧ c = y
        · obtain ⟨rfl, rfl⟩ := hac
          rw [ev]; rfl
        · exact hv.2.2.2.2 a c ha hc (by omega)
  have lr : ∀ t x P T1, x + t = X.2.1 → zCP T T1 X.1 X.2.2.2.2.2.1 X'.2.2.2.2.2.1 X.2.2.1 X.2.1 X'.2.2.1 x 0 → zW zm_102 93 [some (.ref 0), none, none, none, some (.ref (21 + 8 * k2)), some (.ref (21 + 8 * k0)), some (.ref (21 + 8 * k1)), some (.int (Int32.ofNat x)), none] [] p (zh (P, T1, Y) I A w) Q := by
    intro t
    induction t with
    | zero =>
      intro x P T1 hxt hv
      have : x = X.2.1 := by omega
      subst this
      have et : (T1 k0).2.1 = X.2.1 := by rw [hv.1 k0 (by omega)]; exact hx.1.2.1
      refine b102_93 (by omega) (by omega) ⟨by omega, by rw [et]; omega, fun _ => ?_, fun h => ?_⟩
      · have ez : zmuE X.1 X.2.2.2.2.2.1 X'.2.2.2.2.2.1 X.2.2.1 X.2.1 X'.2.2.1 = some (fun a c => if a < X.2.1 ∧ c < X'.2.2.1 then (zmu X.1 X.2.2.2.2.2.1 X'.2.2.2.2.2.1 a c X.2.2.1).getD (0, 0) else (0, 0)) := by
          unfold zmuE
          rw [if_pos (fun a ha c hc => hv.2.2.2.2 a c ha hc (Or.inl ha))]
        have eP : zmP X.1 X.2.2.2.2.2.1 X'.2.2.2.2.2.1 X.2.2.1 X'.2.2.1 X.2.1 0 = (fun a c => if a < X.2.1 ∧ c < X'.2.2.1 then (zmu X.1 X.2.2.2.2.2.1 X'.2.2.2.2.2.1 a c X.2.2.1).getD (0, 0) else (0, 0)) := by
          funext a c
          unfold zmP
          by_cases hq : a < X.2.1 ∧ c < X'.2.2.1
          · rw [if_pos (by omega), if_pos hq]
          · rw [if_neg (by omega), if_neg hq]
        have hG := zmuE_w hX.1.1 hE hF ez
        have hce := hv.2.2.2.1
        rw [eP] at hce
        rw [ez] at ex
        refine s36 (by omega) (by omega) (by omega) hv.2.2.1 hce (fun T2 f1 f2 => b102_159 (by omega) ?_)
        have hf := f2 zg0
        rw [hf.1.2.2]
        exact kfin H ex T2 _ (zCS_up (zCS_w hC hv.1 (by omega) hv.2.1) f1 hf ⟨⟨hX.1.1, hX.1.2.1, hX.1.2.2.1, hY.1.2.2.2.1, hY.1.2.2.2.2⟩, zwf_0 hG⟩) ⟨P, rfl⟩
      · rw [et] at h; omega
    | succ t ih =>
      intro x P T1 hxt hv
      have et : (T1 k0).2.1 = X.2.1 := by rw [hv.1 k0 (by omega)]; exact hx.1.2.1
      refine b102_93 (by omega) (by omega) ⟨by omega, by rw [et]; omega, fun h => ?_, fun _ => lc x (by omega) (fun P T1 hv' => ih (x + 1) P T1 (by omega) hv') X'.2.2.1 0 P T1 (by omega) hv⟩
      rw [et] at h; omega
  refine s28 (by omega) (fun T' f1 f2 => b102_90 (lr X.2.1 0 P T' (by omega) ⟨f1, ?_, (f2 zg0).1, ?_, fun a c ha hc hn => (by omega)⟩))
  · have hf := f2 zg0
    refine ⟨by rw [hf.1.2.1]; omega, by rw [hf.1.2.2]; omega, by rw [hf.2.1]; show 0 ≤ 200; omega⟩
  · have eP : zmP X.1 X.2.2.2.2.2.1 X'.2.2.2.2.2.1 X.2.2.1 X'.2.2.1 0 0 = zZ := by
      funext a c
      unfold zmP
      rw [if_neg (by omega)]; rfl
    rw [eP]
    exact (f2 zg0).2.2.1
