/-! COLUMN STEPS BACK on a vector -/
abbrev zVe : Type := Nat → zE2
def zvu (V : zVe) (k : Nat) (v : zE2) : zVe := fun i => if i = k then v else V i
def zvs (r : Nat) (s : zSt) (V : zVe) : Option zVe := if s.1 = 3 then some (zvu (zvu V s.2.1 (V s.2.2.1)) s.2.2.1 (V s.2.1)) else if s.1 = 4 then (zplus r (V s.2.2.1) s.2.2.2 (V s.2.1)).map (zvu V s.2.2.1) else if s.1 = 5 then (zplus r (0, 0) s.2.2.2 (V s.2.1)).map (zvu V s.2.1) else some V
def zvb (r : Nat) (g : Nat → zSt) : Nat → zVe → Option zVe
  | 0, V => some V
  | n + 1, V => (zvs r (g n) V).bind (zvb r g n)
/-- the reference's vector: good with its entries, or bad -/
def zVB (r : Nat) (vf vs : Nat → Int32) (bad : Bool) (o : Option zVe) : Prop := (∀ k, k < 4 → zok r (vf k, vs k)) ∧ (match o with
  | some V => bad = false ∧ ∀ k, k < 4 → V k = (vf k, vs k)
  | none => bad = true)
theorem zVB_u {r : Nat} {vf vs : Nat → Int32} {bad : Bool} {o : Option zVe} {k : Nat} {q : zVe → Option zE2} {p : Option zE2} (h : zVB r vf vs bad o) (hk : k < 4) (hp : ∀ v, p = some v → zok r v) (hq : ∀ V, o = some V → q V = p) (hr : zrg r) : zVB r (va_up vf k (zres bad p).2.1) (va_up vs k (zres bad p).2.2) (zres bad p).1 (o.bind (fun V => (q V).map (zvu V k))) := by
  have ok2 : zok r ((zres bad p).2.1, (zres bad p).2.2) := by
    cases bad with
    | true => exact zok_0 hr
    | false =>
      cases hp2 : p with
      | none => exact zok_0 hr
      | some v => exact hp v hp2
  refine ⟨fun i hi => ?_, ?_⟩
  · by_cases hik : i = k
    · subst hik; rw [va_up_self, va_up_self]; exact ok2
    · rw [va_up_ne _ _ hik, va_up_ne _ _ hik]; exact h.1 i hi
  · cases o with
    | none =>
      have : bad = true := h.2
      subst this
      rfl
    | some V =>
      obtain ⟨hb, hV⟩ := h.2
      subst hb
      rw [Option.bind_some, hq V rfl]
      cases p with
      | none => rfl
      | some v =>
        refine ⟨rfl, fun i hi => ?_⟩
        show zvu V k v i = _
        unfold zvu
        by_cases hik : i = k
        · subst hik; rw [if_pos rfl, va_up_self, va_up_self]; rfl
        · rw [if_neg hik, va_up_ne _ _ hik, va_up_ne _ _ hik]; exact hV i hi
theorem s210 {K : zKt} {code pr pn : Int32} {J : zJt} {m : Nat → Int32} {B : zBt} {w : Nat → Int64} {p : Nat × Nat} {Q : zR → zH → Prop} {r h d : Nat} {O : zMe} {σ : zFo} (hsh : zsh r h d) (hb : zRb m 3204 r h d O σ) (hw : zwf r h d O σ) :
    ∀ (n : Nat) (o : Option zVe) (rf rs : Int32) (pa pb pc vf vs : Nat → Int32) (bad : Bool), n ≤ σ.1 → zVB r vf vs bad o → (∀ rf' rs' pa' pb' pc' vf' vs' bad', zVB r vf' vs' bad' (o.bind (zvb r σ.2.2 n)) → Q (.inl none) (zh K (code, rf', rs', bad', pr, pn, J) (m, pa', pb', pc', vf', vs', B) w)) →
    zW zm_210 20 [some (.ref 75), some (.int (Int32.ofNat r)), some (.int (zpre n)), none, none, none, none, none] [] p (zh K (code, rf, rs, bad, pr, pn, J) (m, pa, pb, pc, vf, vs, B) w) Q := by
  have hr := hsh.1
  have hd := hsh.2.2.2.2
  have hc : σ.1 ≤ 200 := hw.1
  intro n
  induction n with
  | zero =>
    intro o rf rs pa pb pc vf vs bad hn hV H
    refine b210_20 ⟨fun _ => H rf rs pa pb pc vf vs bad ?_, fun h => absurd (by decide) h⟩
    cases o <;> exact hV
  | succ n ih =>
    intro o rf rs pa pb pc vf vs bad hn hV H
    have hs := hw.2.2.2.1 n (by omega)
    obtain ⟨g1, g2, g3, g4, g5⟩ := hb.2.2.2.2 n (by omega)
    rw [show 3204 + 68 + 5 * n = 3272 + 5 * n by omega] at g1 g2 g3 g4 g5
    have h6 := hs.1
    have nx : o.bind (zvb r σ.2.2 (n + 1)) = (o.bind (zvs r (σ.2.2 n))).bind (zvb r σ.2.2 n) := by cases o <;> rfl
    rw [nx] at H
    rw [zpre_s]
    refine b210_20 ⟨fun h => ?_, fun _ k hk ek => ?_⟩
    · rw [Int32.lt_iff_toInt_lt, zN_i (by omega), Int32.toInt_zero] at h
      omega
    have : k = n := (zN_inj (by omega) hk ek).symm
    subst this
    rw [g1, g2, g3, g4, g5]
    have kk : ∀ t, t < 6 → (Int32.ofNat (σ.2.2 k).1 = Int32.ofNat t ↔ (σ.2.2 k).1 = t) := fun t ht => zN_e (by omega) (by omega)
    refine ⟨by omega, by omega, by omega, fun n3 => ⟨fun n4 => ⟨fun n5 => ?_, fun n5 => ?_⟩, fun n4 => ?_⟩, fun n3 => ?_⟩
    · have e1 : o.bind (zvs r (σ.2.2 k)) = o := by
        have : zvs r (σ.2.2 k) = some := by
          funext V
          unfold zvs
          rw [if_neg (fun h => n3 ((kk 3 (by omega)).mpr h)), if_neg (fun h => n4 ((kk 4 (by omega)).mpr h)), if_neg (fun h => n5 ((kk 5 (by omega)).mpr h))]
        rw [this]; cases o <;> rfl
      rw [e1] at H
      exact ih o rf rs pa pb pc vf vs bad (by omega) hV H
    · have k5 := (kk 5 (by omega)).mp n5
      have kc : zkc (σ.2.2 k) = true := zkc_2.2.mpr (by omega)
      have hi : (σ.2.2 k).2.1 < d := by have := hs.2.1; rw [kc] at this; exact this
      refine ⟨by omega, by omega, (σ.2.2 k).2.1, rfl, by omega, ?_⟩
      refine s157 hr (zok_0 hr) hs.2.2.2.2.1 (hV.1 _ (by omega)) (fun pa' pb' pc' => b210_260 ⟨(σ.2.2 k).2.1, rfl, by omega, ?_⟩)
      refine ih (o.bind (zvs r (σ.2.2 k))) _ _ _ _ _ _ _ _ (by omega) ?_ H
      have e1 : zvs r (σ.2.2 k) = fun V => (zplus r (0, 0) (σ.2.2 k).2.2.2 (V (σ.2.2 k).2.1)).map (zvu V (σ.2.2 k).2.1) := by
        funext V
        unfold zvs
        rw [if_neg (by omega), if_neg (by omega), if_pos k5]
      rw [e1]
      exact zVB_u (q := fun V => zplus r (0, 0) (σ.2.2 k).2.2.2 (V (σ.2.2 k).2.1)) hV (by omega) (fun v e => zok_plus hr (zok_0 hr) hs.2.2.2.2.1 (hV.1 _ (by omega)) e) (fun V eV => by subst eV; show zplus r (0, 0) _ (V _) = _; rw [hV.2.2 _ (by omega)]) hr
    · have k4 := (kk 4 (by omega)).mp n4
      have kc : zkc (σ.2.2 k) = true := zkc_2.2.mpr (by omega)
      have hi : (σ.2.2 k).2.1 < d := by have := hs.2.1; rw [kc] at this; exact this
      have hj : (σ.2.2 k).2.2.1 < d := by have := (hs.2.2.1 (by omega)).1; rw [kc] at this; exact this
      have ej : zsj (σ.2.2 k) = Int32.ofNat (σ.2.2 k).2.2.1 := zsj_n (by omega)
      refine ⟨(σ.2.2 k).2.2.1, ej, by omega, by omega, by omega, (σ.2.2 k).2.1, rfl, by omega, ?_⟩
      refine s157 hr (hV.1 _ (by omega)) hs.2.2.2.2.1 (hV.1 _ (by omega)) (fun pa' pb' pc' => b210_188 ⟨(σ.2.2 k).2.2.1, ej, by omega, ?_⟩)
      refine ih (o.bind (zvs r (σ.2.2 k))) _ _ _ _ _ _ _ _ (by omega) ?_ H
      have e1 : zvs r (σ.2.2 k) = fun V => (zplus r (V (σ.2.2 k).2.2.1) (σ.2.2 k).2.2.2 (V (σ.2.2 k).2.1)).map (zvu V (σ.2.2 k).2.2.1) := by
        funext V
        unfold zvs
        rw [if_neg (by omega), if_pos k4]
      rw [e1]
      exact zVB_u (q := fun V => zplus r (V (σ.2.2 k).2.2.1) (σ.2.2 k).2.2.2 (V (σ.2.2 k).2.1)) hV (by omega) (fun v e => zok_plus hr (hV.1 _ (by omega)) hs.2.2.2.2.1 (hV.1 _ (by omega)) e) (fun V eV => by subst eV; show zplus r (V _) _ (V _) = _; rw [hV.2.2 _ (by omega), hV.2.2 _ (by omega)]) hr
    · have k3 := (kk 3 (by omega)).mp n3
      have kc : zkc (σ.2.2 k) = true := zkc_2.2.mpr (by omega)
      have hi : (σ.2.2 k).2.1 < d := by have := hs.2.1; rw [kc] at this; exact this
      have hj : (σ.2.2 k).2.2.1 < d := by have := (hs.2.2.1 (by omega)).1; rw [kc] at this; exact this
      have ej : zsj (σ.2.2 k) = Int32.ofNat (σ.2.2 k).2.2.1 := zsj_n (by omega)
      refine ⟨(σ.2.2 k).2.1, rfl, by omega, (σ.2.2 k).2.2.1, ej, by omega, ?_⟩
      refine ih (o.bind (zvs r (σ.2.2 k))) _ _ _ _ _ _ _ _ (by omega) ?_ H
      have e1 : zvs r (σ.2.2 k) = fun V => some (zvu (zvu V (σ.2.2 k).2.1 (V (σ.2.2 k).2.2.1)) (σ.2.2 k).2.2.1 (V (σ.2.2 k).2.1)) := by
        funext V
        unfold zvs
        rw [if_pos k3]
      rw [e1]
      generalize (σ.2.2 k).2.1 = a at *
      generalize (σ.2.2 k).2.2.1 = b at *
      have cell : ∀ x, x < 4 → (va_up (va_up vf a (vf b)) b (vf a) x, va_up (va_up vs a (vs b)) b (vs a) x) = if x = b then (vf a, vs a) else if x = a then (vf b, vs b) else (vf x, vs x) := by
        intro x _
        by_cases h1 : x = b
        · subst h1; rw [va_up_self, va_up_self, if_pos rfl]
        · rw [va_up_ne _ _ h1, va_up_ne _ _ h1, if_neg h1]
          by_cases h2 : x = a
          · subst h2; rw [va_up_self, va_up_self, if_pos rfl]
          · rw [va_up_ne _ _ h2, va_up_ne _ _ h2, if_neg h2]
      refine ⟨fun x hx => ?_, ?_⟩
      · rw [cell x hx]
        split
        · exact hV.1 a (by omega)
        · split
          · exact hV.1 b (by omega)
          · exact hV.1 x hx
      · cases o with
        | none => exact hV.2
        | some V =>
          refine ⟨hV.2.1, fun x hx => ?_⟩
          rw [cell x hx]
          show zvu (zvu V a (V b)) b (V a) x = _
          unfold zvu
          split
          · exact hV.2.2 a (by omega)
          · split
            · exact hV.2.2 b (by omega)
            · exact hV.2.2 x hx
/-- the row step that goes back over a column step -/
def zsr (s : zSt) : zSt := if s.1 = 3 then (0, s.2.1, s.2.2.1, s.2.2.2) else if s.1 = 4 then (1, s.2.2.1, s.2.1, s.2.2.2) else (2, s.2.1, s.2.2.1, s.2.2.2)
def zmb (r d u : Nat) (g : Nat → zSt) : Nat → zMe → Option zMe
  | 0, E => some E
  | n + 1, E => (if zkc (g n) = true then zap r d u E (zsr (g n)) else some E).bind (zmb r d u g n)
theorem zsr_v {r h d u : Nat} {s : zSt} (hs : zsv r h d s) (hk : zkc s = true) : zsv r d u (zsr s) := by
  obtain ⟨s1, s2, s3, s4, s5, s6⟩ := hs
  have h2 := zkc_2.2.mp hk
  rw [hk] at s2 s3
  have c : s.1 = 3 ∨ s.1 = 4 ∨ s.1 = 5 := by omega
  unfold zsr
  rcases c with c | c | c
  · rw [if_pos c]
    rw [c] at s3 s4 s6
    obtain ⟨j1, j2⟩ := s3 (by decide)
    exact ⟨by show 0 < 6; omega, s2, fun _ => ⟨j1, j2⟩, fun h => absurd h (by show ¬ 0 % 3 = 2; decide), s5, fun _ => s6 (by decide)⟩
  · rw [if_neg (by omega), if_pos c]
    rw [c] at s3 s4 s6
    obtain ⟨j1, j2⟩ := s3 (by decide)
    exact ⟨by show 1 < 6; omega, j1, fun _ => ⟨s2, fun h => j2 h.symm⟩, fun h => absurd h (by show ¬ 1 % 3 = 2; decide), s5, fun h => absurd h (by show ¬ 1 % 3 = 0; decide)⟩
  · rw [if_neg (by omega), if_neg (by omega)]
    rw [c] at s3 s4 s6
    exact ⟨by show 2 < 6; omega, s2, fun h => absurd rfl h, fun _ => s4 (by decide), s5, fun h => absurd h (by show ¬ 2 % 3 = 0; decide)⟩
/-- followColumnStepsBack -/
theorem s46 {Y : zYt} {I : zIt} {A : zAt} {w : Nat → Int64} {p : Nat × Nat} {Q : zR → zH → Prop} {i j r h d u : Nat} {O : zMe} {σ : zFo} {T0 : Nat → zX} (hi : i < 6) (hj : j < 6) (hij : j ≠ i) (hsh : zsh r d u) (hw : zwf r h d O σ) (hY : zCX (T0 j) r h d O σ) (hXb : zXb (T0 i)) :
    ∀ (n : Nat) (E : zMe) P T, n ≤ σ.1 → zTo i T0 T → zXb (T i) → zCh (T i) r d u → zCe (T i).2.2.2.2.1 E → zEw r d u E → (∀ E', zmb r d u σ.2.2 n E = some E' → ∀ P' T', zTo i T0 T' → zXb (T' i) → zCh (T' i) r d u → zCe (T' i).2.2.2.2.1 E' → zEw r d u E' → Q (.inl none) (zh (P', T', Y) I A w)) → (zmb r d u σ.2.2 n E = none → ∀ P' T', zTo i T0 T' → zXb (T' i) → Q (.inr 3) (zh (P', T', Y) I A w)) →
    zW zm_46 7 [some (.ref (21 + 8 * i)), some (.ref (21 + 8 * j)), some (.int (zpre n)), none] [] p (zh (P, T, Y) I A w) Q := by
  have hc : σ.1 ≤ 200 := hw.1
  intro n
  induction n with
  | zero =>
    intro E P T hn f1 f2 f3 f4 f5 H1 H2
    exact b46_7 hj hi ⟨fun _ => H1 E rfl P T f1 f2 f3 f4 f5, fun h => absurd (by decide) h⟩
  | succ n ih =>
    intro E P T hn f1 f2 f3 f4 f5 H1 H2
    have hs := hw.2.2.2.1 n (by omega)
    obtain ⟨g1, g2, g3, g4⟩ := hY.2.2.2.2 n (by omega)
    rw [← f1 j hij] at g1 g2 g3 g4
    have h6 := hs.1
    rw [zmb] at H1 H2
    rw [zpre_s]
    refine b46_7 hj hi ⟨fun h => ?_, fun _ k hk ek => ?_⟩
    · rw [Int32.lt_iff_toInt_lt, zN_i (by omega), Int32.toInt_zero] at h
      omega
    have : k = n := (zN_inj (by omega) hk ek).symm
    subst this
    rw [g1, g2, g3, g4]
    have m3 : ∀ t, t < 6 → ((Int32.ofNat t - 3 = 1 ↔ t = 4) ∧ (Int32.ofNat t - 3 < 0 ↔ t < 3)) := by decide
    obtain ⟨q1, q2⟩ := m3 _ h6
    have step : zkc (σ.2.2 k) = true → ∀ (kk tt jj : Int32), kk = Int32.ofNat (zsr (σ.2.2 k)).1 → tt = Int32.ofNat (zsr (σ.2.2 k)).2.1 → ((zsr (σ.2.2 k)).1 % 3 ≠ 2 → jj = Int32.ofNat (zsr (σ.2.2 k)).2.2.1) → (zsr (σ.2.2 k)).2.2.2 = (σ.2.2 k).2.2.2 → ∀ pc, (∀ P T, zW zm_46 7 [some (.ref (21 + 8 * i)), some (.ref (21 + 8 * j)), some (.int (Int32.ofNat k + Int32.ofInt (-1))), none] [] p (zh (P, T, Y) I A w) Q → zW zm_46 pc [some (.ref (21 + 8 * i)), some (.ref (21 + 8 * j)), some (.int (Int32.ofNat k)), none] [] p (zh (P, T, Y) I A w) Q) → zT zm_40 [.ref (21 + 8 * i), .int kk, .int tt, .int jj, .long (zen (σ.2.2 k).2.2.2)] p (zh (P, T, Y) I A w) (zK zm_46 pc [some (.ref (21 + 8 * i)), some (.ref (21 + 8 * j)), some (.int (Int32.ofNat k)), none] [] p Q) := by
      intro hkc kk tt jj e1 e2 e3 e4 pc hpc
      rw [if_pos hkc] at H1 H2
      subst e1 e2
      rw [← e4]
      have hv := zsr_v (u := u) hs hkc
      refine s40 hi hsh f2 f3 f4 f5 hv e3 (fun E' eE P' T' e' l' a1 a2 a3 => hpc P' T' ?_) (fun en P' T' l' a1 a2 => H2 (by rw [en]; rfl) P' T' (fun x hx => (a1 x hx).trans (f1 x hx)) (by rw [a2]; exact f2))
      rw [eE] at H1 H2
      exact ih E' P' T' (by omega) (fun x hx => (a1 x hx).trans (f1 x hx)) (by rw [a2]; exact f2) (by rw [a2]; exact f3) (by rw [a2]; exact a3) (zap_w hsh.1 f5 hv eE) H1 H2
    refine ⟨by omega, fun n1 => ⟨fun n0 => ?_, fun n0 => ?_⟩, fun n1 => ?_⟩
    · have hkc : zkc (σ.2.2 k) = false := zkc_2.1.mpr (by have := q2.mp n0; omega)
      rw [if_neg (by rw [hkc]; decide)] at H1 H2
      exact ih E P T (by omega) f1 f2 f3 f4 f5 H1 H2
    · have h3 : ¬ (σ.2.2 k).1 < 3 := fun h => n0 (q2.mpr h)
      have h4 : (σ.2.2 k).1 ≠ 4 := fun h => n1 (q1.mpr h)
      have c : (σ.2.2 k).1 = 3 ∨ (σ.2.2 k).1 = 5 := by omega
      refine step (zkc_2.2.mpr (by omega)) _ _ _ ?_ ?_ (fun hh => ?_) ?_ 78 (fun P T => b46_78)
      · unfold zsr
        rcases c with c | c
        · rw [if_pos c, c]; show Int32.ofNat 3 - 3 = Int32.ofNat 0; decide
        · rw [if_neg (by omega), if_neg (by omega), c]; show Int32.ofNat 5 - 3 = Int32.ofNat 2; decide
      · unfold zsr
        rcases c with c | c
        · rw [if_pos c]
        · rw [if_neg (by omega), if_neg (by omega)]
      · rcases c with c | c
        · unfold zsr; rw [if_pos c]; exact zsj_n (by omega)
        · unfold zsr at hh; rw [if_neg (by omega), if_neg (by omega)] at hh; exact absurd rfl hh
      · unfold zsr
        rcases c with c | c
        · rw [if_pos c]
        · rw [if_neg (by omega), if_neg (by omega)]
    · have c := q1.mp n1
      refine step (zkc_2.2.mpr (by omega)) _ _ _ ?_ ?_ (fun hh => ?_) ?_ 48 (fun P T => b46_48)
      · unfold zsr; rw [if_neg (by omega), if_pos c]; rfl
      · unfold zsr; rw [if_neg (by omega), if_pos c]; exact zsj_n (by omega)
      · unfold zsr; rw [if_neg (by omega), if_pos c]
      · unfold zsr; rw [if_neg (by omega), if_pos c]
/-- a column of the matrix goes as the vector does -/
theorem zsr_c {r h d u : Nat} {E E' : zMe} {s : zSt} (hs : zsv r h d s) (hk : zkc s = true) (e : zap r d u E (zsr s) = some E') {c : Nat} (hc : c < u) : ∃ V, zvs r s (fun k => E k c) = some V ∧ ∀ a, V a = E' a c := by
  obtain ⟨s1, s2, s3, s4, s5, s6⟩ := hs
  have h2 := zkc_2.2.mp hk
  have cc : s.1 = 3 ∨ s.1 = 4 ∨ s.1 = 5 := by omega
  obtain ⟨a1, rfl⟩ := zap_some e
  have kf : zkc (zsr s) = false := by
    unfold zsr
    rcases cc with c1 | c1 | c1
    · rw [if_pos c1]; rfl
    · rw [if_neg (by omega), if_pos c1]; rfl
    · rw [if_neg (by omega), if_neg (by omega)]; rfl
  rw [kf] at a1
  obtain ⟨v, hv⟩ := Option.isSome_iff_exists.mp (a1 c hc)
  have cell : ∀ a, zapE r (zplc d u (zkc (zsr s))) E (zsr s) a c = if a = (zsr s).2.1 then v else if (zsr s).1 % 3 = 0 ∧ a = (zsr s).2.2.1 then E (zsr s).2.1 c else E a c := by
    intro a
    unfold zapE zapL
    rw [kf, cond_false, if_pos (show c < zplc d u false from hc), hv]
    rfl
  unfold zap1 at hv
  rw [kf] at hv
  unfold zvs
  rcases cc with c1 | c1 | c1
  · have ez : zsr s = (0, s.2.1, s.2.2.1, s.2.2.2) := by unfold zsr; rw [if_pos c1]
    rw [ez] at hv cell ⊢
    rw [if_pos c1]
    have hv' : some (E s.2.2.1 c) = some v := hv
    cases hv'
    refine ⟨_, rfl, fun a => ?_⟩
    rw [cell a]
    show (if a = s.2.2.1 then E s.2.1 c else if a = s.2.1 then E s.2.2.1 c else E a c) = (if a = s.2.1 then E s.2.2.1 c else if 0 % 3 = 0 ∧ a = s.2.2.1 then E s.2.1 c else E a c)
    have hne := (s3 (by omega)).2
    by_cases w1 : a = s.2.1
    · rw [if_neg (by omega), if_pos w1, if_pos w1]
    · rw [if_neg w1, if_neg w1]
      by_cases w2 : a = s.2.2.1
      · rw [if_pos w2, if_pos ⟨rfl, w2⟩]
      · rw [if_neg w2, if_neg (fun g => w2 g.2)]
  · have ez : zsr s = (1, s.2.2.1, s.2.1, s.2.2.2) := by unfold zsr; rw [if_neg (by omega), if_pos c1]
    rw [ez] at hv cell ⊢
    rw [if_neg (by omega), if_pos c1]
    have hv' : zplus r (E s.2.2.1 c) s.2.2.2 (E s.2.1 c) = some v := hv
    rw [hv']
    refine ⟨_, rfl, fun a => ?_⟩
    rw [cell a]
    show (if a = s.2.2.1 then v else E a c) = (if a = s.2.2.1 then v else if 1 % 3 = 0 ∧ a = s.2.1 then E s.2.2.1 c else E a c)
    rw [if_neg (fun g : 1 % 3 = 0 ∧ a = s.2.1 => absurd g.1 (by decide))]
  · have ez : zsr s = (2, s.2.1, s.2.2.1, s.2.2.2) := by unfold zsr; rw [if_neg (by omega), if_neg (by omega)]
    rw [ez] at hv cell ⊢
    rw [if_neg (by omega), if_neg (by omega), if_pos c1]
    have hv' : zplus r (0, 0) s.2.2.2 (E s.2.1 c) = some v := hv
    rw [hv']
    refine ⟨_, rfl, fun a => ?_⟩
    rw [cell a]
    show (if a = s.2.1 then v else E a c) = (if a = s.2.1 then v else if 2 % 3 = 0 ∧ a = s.2.2.1 then E s.2.1 c else E a c)
    rw [if_neg (fun g : 2 % 3 = 0 ∧ a = s.2.2.1 => absurd g.1 (by decide))]
theorem zsr_n {r h d u : Nat} {E : zMe} {s : zSt} (hs : zsv r h d s) (hk : zkc s = true) (e : zap r d u E (zsr s) = none) : ∃ c, c < u ∧ zvs r s (fun k => E k c) = none := by
  have h2 := zkc_2.2.mp hk
  have h6 := hs.1
  have cc : s.1 = 3 ∨ s.1 = 4 ∨ s.1 = 5 := by omega
  have kf : zkc (zsr s) = false := by
    unfold zsr
    rcases cc with c1 | c1 | c1
    · rw [if_pos c1]; rfl
    · rw [if_neg (by omega), if_pos c1]; rfl
    · rw [if_neg (by omega), if_neg (by omega)]; rfl
  unfold zap at e
  split at e
  · cases e
  rename_i hn
  rw [kf] at hn
  apply Classical.byContradiction
  intro hex
  apply hn
  intro c hc
  have hc' : c < u := hc
  cases hz : zap1 r E (zsr s) c with
  | some v => rfl
  | none =>
    exfalso
    apply hex
    refine ⟨c, hc', ?_⟩
    unfold zap1 at hz
    rw [kf] at hz
    unfold zvs
    rcases cc with c1 | c1 | c1
    · have ez : zsr s = (0, s.2.1, s.2.2.1, s.2.2.2) := by unfold zsr; rw [if_pos c1]
      rw [ez] at hz
      have hz' : some (E s.2.2.1 c) = none := hz
      cases hz'
    · have ez : zsr s = (1, s.2.2.1, s.2.1, s.2.2.2) := by unfold zsr; rw [if_neg (by omega), if_pos c1]
      rw [ez] at hz
      have hz' : zplus r (E s.2.2.1 c) s.2.2.2 (E s.2.1 c) = none := hz
      rw [if_neg (by omega), if_pos c1, hz']; rfl
    · have ez : zsr s = (2, s.2.1, s.2.2.1, s.2.2.2) := by unfold zsr; rw [if_neg (by omega), if_neg (by omega)]
      rw [ez] at hz
      have hz' : zplus r (0, 0) s.2.2.2 (E s.2.1 c) = none := hz
      rw [if_neg (by omega), if_neg (by omega), if_pos c1, hz']; rfl
theorem zvs_k {r : Nat} {s : zSt} (hk : zkc s ≠ true) (V : zVe) : zvs r s V = some V := by
  have : s.1 ≤ 2 := zkc_2.1.mp (by cases h : zkc s with
    | false => rfl
    | true => exact absurd h hk)
  unfold zvs
  rw [if_neg (by omega), if_neg (by omega), if_neg (by omega)]
/-- all columns, or one that fails -/
theorem zmb_c {r h d u : Nat} {g : Nat → zSt} : ∀ (n : Nat) (E : zMe), (∀ k, k < n → zsv r h d (g k)) → (∀ E', zmb r d u g n E = some E' → ∀ c, c < u → ∃ V, zvb r g n (fun k => E k c) = some V ∧ ∀ a, V a = E' a c) ∧ (zmb r d u g n E = none → ∃ c, c < u ∧ zvb r g n (fun k => E k c) = none) := by
  intro n
  induction n with
  | zero =>
    intro E _
    refine ⟨fun E' e c hc => ?_, fun e => (by cases e)⟩
    cases e
    exact ⟨_, rfl, fun a => rfl⟩
  | succ n ih =>
    intro E hg
    have hs := hg n (by omega)
    have hg' : ∀ k, k < n → zsv r h d (g k) := fun k hk => hg k (by omega)
    simp only [zmb, zvb]
    by_cases hk : zkc (g n) = true
    · rw [if_pos hk]
      cases hz : zap r d u E (zsr (g n)) with
      | none =>
        refine ⟨fun E' e => (by cases e), fun _ => ?_⟩
        obtain ⟨c, hc, en⟩ := zsr_n hs hk hz
        exact ⟨c, hc, by rw [en]; rfl⟩
      | some E1 =>
        have hcol : ∀ c, c < u → zvs r (g n) (fun k => E k c) = some (fun k => E1 k c) := by
          intro c hc
          obtain ⟨V, eV, hV⟩ := zsr_c hs hk hz hc
          rw [eV]
          congr 1
          funext a
          exact hV a
        obtain ⟨i1, i2⟩ := ih E1 hg'
        refine ⟨fun E' e c hc => ?_, fun e => ?_⟩
        · rw [hcol c hc]
          exact i1 E' e c hc
        · obtain ⟨c, hc, en⟩ := i2 e
          exact ⟨c, hc, by rw [hcol c hc]; exact en⟩
    · rw [if_neg hk]
      obtain ⟨i1, i2⟩ := ih E hg'
      refine ⟨fun E' e c hc => ?_, fun e => ?_⟩
      · rw [zvs_k hk]
        exact i1 E' e c hc
      · obtain ⟨c, hc, en⟩ := i2 e
        exact ⟨c, hc, by rw [zvs_k hk]; exact en⟩
