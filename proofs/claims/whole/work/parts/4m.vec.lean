/-! COLUMN STEPS BACK on a vector -/
abbrev zVe : Type := Nat → zE2
def zvu (V : zVe) (k : Nat) (v : zE2) : zVe := fun i => if i = k then v else V i
def zvs (r : Nat) (s : zSt) (V : zVe) : Option zVe := if s.1 = 3 then some (zvu (zvu V s.2.1 (V s.2.2.1)) s.2.2.1 (V s.2.1)) else if s.1 = 4 then (zplus r (V s.2.2.1) s.2.2.2 (V s.2.1)).map (zvu V s.2.2.1) else if s.1 = 5 then (zplus r (0, 0) s.2.2.2 (V s.2.1)).map (zvu V s.2.1) else some V
def zvb (r : Nat) (g : Nat → zSt) : Nat → zVe → Option zVe
  | 0, V => some V
  | n + 1, V => (zvs r (g n) V).bind (zvb r g n)
/-- the reference's vector: good with its entries, or bad -/
def zVB (r : Nat) (vf vs : Nat → Int32) (bad : Bool) (o : Option zVe) : Prop := (∀ k, k < 4 → zok r (vf k, vs k)) ∧ (match o with
  | some V => bad = false ∧ ∀ k, k < 4 → V k = (vf k, vs k)
  | none => bad = true)
theorem zVB_u {r : Nat} {vf vs : Nat → Int32} {bad : Bool} {o : Option zVe} {k : Nat} {q : zVe → Option zE2} {p : Option zE2} (h : zVB r vf vs bad o) (hk : k < 4) (hp : ∀ v, p = some v → zok r v) (hq : ∀ V, o = some V → q V = p) (hr : zrg r) : zVB r (va_up vf k (zres bad p).2.1) (va_up vs k (zres bad p).2.2) (zres bad p).1 (o.bind (fun V => (q V).map (zvu V k))) := by
  have ok2 : zok r ((zres bad p).2.1, (zres bad p).2.2) := by
    cases bad with
    | true => exact zok_0 hr
    | false =>
      cases hp2 : p with
      | none => exact zok_0 hr
      | some v => exact hp v hp2
  refine ⟨fun i hi => ?_, ?_⟩
  · by_cases hik : i = k
    · subst hik; rw [va_up_self, va_up_self]; exact ok2
    · rw [va_up_ne _ _ hik, va_up_ne _ _ hik]; exact h.1 i hi
  · cases o with
    | none =>
      have : bad = true := h.2
      subst this
      rfl
    | some V =>
      obtain ⟨hb, hV⟩ := h.2
      subst hb
      rw [Option.bind_some, hq V rfl]
      cases p with
      | none => rfl
      | some v =>
        refine ⟨rfl, fun i hi => ?_⟩
        show zvu V k v i = _
        unfold zvu
        by_cases hik : i = k
        · subst hik; rw [if_pos rfl, va_up_self, va_up_self]; rfl
        · rw [if_neg hik, va_up_ne _ _ hik, va_up_ne _ _ hik]; exact hV i hi
theorem s210 {K : zKt} {code pr pn : Int32} {J : zJt} {m : Nat → Int32} {B : zBt} {w : Nat → Int64} {p : Nat × Nat} {Q : zR → zH → Prop} {r h d : Nat} {O : zMe} {σ : zFo} (hsh : zsh r h d) (hb : zRb m 3204 r h d O σ) (hw : zwf r h d O σ) :
    ∀ (n : Nat) (o : Option zVe) (rf rs : Int32) (pa pb pc vf vs : Nat → Int32) (bad : Bool), n ≤ σ.1 → zVB r vf vs bad o → (∀ rf' rs' pa' pb' pc' vf' vs' bad', zVB r vf' vs' bad' (o.bind (zvb r σ.2.2 n)) → Q (.inl none) (zh K (code, rf', rs', bad', pr, pn, J) (m, pa', pb', pc', vf', vs', B) w)) →
    zW zm_210 20 [some (.ref 75), some (.int (Int32.ofNat r)), some (.int (zpre n)), none, none, none, none, none] [] p (zh K (code, rf, rs, bad, pr, pn, J) (m, pa, pb, pc, vf, vs, B) w) Q := by
  have hr := hsh.1
  have hd := hsh.2.2.2.2
  have hc : σ.1 ≤ 200 := hw.1
  intro n
  induction n with
  | zero =>
    intro o rf rs pa pb pc vf vs bad hn hV H
    refine b210_20 ⟨fun _ => H rf rs pa pb pc vf vs bad ?_, fun h => absurd (by decide) h⟩
    cases o <;> exact hV
  | succ n ih =>
    intro o rf rs pa pb pc vf vs bad hn hV H
    have hs := hw.2.2.2.1 n (by omega)
    obtain ⟨g1, g2, g3, g4, g5⟩ := hb.2.2.2.2 n (by omega)
    rw [show 3204 + 68 + 5 * n = 3272 + 5 * n by omega] at g1 g2 g3 g4 g5
    have h6 := hs.1
    have nx : o.bind (zvb r σ.2.2 (n + 1)) = (o.bind (zvs r (σ.2.2 n))).bind (zvb r σ.2.2 n) := by cases o <;> rfl
    rw [nx] at H
    rw [zpre_s]
    refine b210_20 ⟨fun h => ?_, fun _ k hk ek => ?_⟩
    · rw [Int32.lt_iff_toInt_lt, zN_i (by omega), Int32.toInt_zero] at h
      omega
    have : k = n := (zN_inj (by omega) hk ek).symm
    subst this
    rw [g1, g2, g3, g4, g5]
    have kk : ∀ t, t < 6 → (Int32.ofNat (σ.2.2 k).1 = Int32.ofNat t ↔ (σ.2.2 k).1 = t) := fun t ht => zN_e (by omega) (by omega)
    refine ⟨by omega, by omega, by omega, fun n3 => ⟨fun n4 => ⟨fun n5 => ?_, fun n5 => ?_⟩, fun n4 => ?_⟩, fun n3 => ?_⟩
    · have e1 : o.bind (zvs r (σ.2.2 k)) = o := by
        have : zvs r (σ.2.2 k) = some := by
          funext V
          unfold zvs
          rw [if_neg (fun h => n3 ((kk 3 (by omega)).mpr h)), if_neg (fun h => n4 ((kk 4 (by omega)).mpr h)), if_neg (fun h => n5 ((kk 5 (by omega)).mpr h))]
        rw [this]; cases o <;> rfl
      rw [e1] at H
      exact ih o rf rs pa pb pc vf vs bad (by omega) hV H
    · have k5 := (kk 5 (by omega)).mp n5
      have kc : zkc (σ.2.2 k) = true := zkc_2.2.mpr (by omega)
      have hi : (σ.2.2 k).2.1 < d := by have := hs.2.1; rw [kc] at this; exact this
      refine ⟨by omega, by omega, (σ.2.2 k).2.1, rfl, by omega, ?_⟩
      refine s157 hr (zok_0 hr) hs.2.2.2.2.1 (hV.1 _ (by omega)) (fun pa' pb' pc' => b210_260 ⟨(σ.2.2 k).2.1, rfl, by omega, ?_⟩)
      refine ih (o.bind (zvs r (σ.2.2 k))) _ _ _ _ _ _ _ _ (by omega) ?_ H
      have e1 : zvs r (σ.2.2 k) = fun V => (zplus r (0, 0) (σ.2.2 k).2.2.2 (V (σ.2.2 k).2.1)).map (zvu V (σ.2.2 k).2.1) := by
        funext V
        unfold zvs
        rw [if_neg (by omega), if_neg (by omega), if_pos k5]
      rw [e1]
      exact zVB_u (q := fun V => zplus r (0, 0) (σ.2.2 k).2.2.2 (V (σ.2.2 k).2.1)) hV (by omega) (fun v e => zok_plus hr (zok_0 hr) hs.2.2.2.2.1 (hV.1 _ (by omega)) e) (fun V eV => by subst eV; show zplus r (0, 0) _ (V _) = _; rw [hV.2.2 _ (by omega)]) hr
    · have k4 := (kk 4 (by omega)).mp n4
      have kc : zkc (σ.2.2 k) = true := zkc_2.2.mpr (by omega)
      have hi : (σ.2.2 k).2.1 < d := by have := hs.2.1; rw [kc] at this; exact this
      have hj : (σ.2.2 k).2.2.1 < d := by have := (hs.2.2.1 (by omega)).1; rw [kc] at this; exact this
      have ej : zsj (σ.2.2 k) = Int32.ofNat (σ.2.2 k).2.2.1 := zsj_n (by omega)
      refine ⟨(σ.2.2 k).2.2.1, ej, by omega, by omega, by omega, (σ.2.2 k).2.1, rfl, by omega, ?_⟩
      refine s157 hr (hV.1 _ (by omega)) hs.2.2.2.2.1 (hV.1 _ (by omega)) (fun pa' pb' pc' => b210_188 ⟨(σ.2.2 k).2.2.1, ej, by omega, ?_⟩)
      refine ih (o.bind (zvs r (σ.2.2 k))) _ _ _ _ _ _ _ _ (by omega) ?_ H
      have e1 : zvs r (σ.2.2 k) = fun V => (zplus r (V (σ.2.2 k).2.2.1) (σ.2.2 k).2.2.2 (V (σ.2.2 k).2.1)).map (zvu V (σ.2.2 k).2.2.1) := by
        funext V
        unfold zvs
        rw [if_neg (by omega), if_pos k4]
      rw [e1]
      exact zVB_u (q := fun V => zplus r (V (σ.2.2 k).2.2.1) (σ.2.2 k).2.2.2 (V (σ.2.2 k).2.1)) hV (by omega) (fun v e => zok_plus hr (hV.1 _ (by omega)) hs.2.2.2.2.1 (hV.1 _ (by omega)) e) (fun V eV => by subst eV; show zplus r (V _) _ (V _) = _; rw [hV.2.2 _ (by omega), hV.2.2 _ (by omega)]) hr
    · have k3 := (kk 3 (by omega)).mp n3
      have kc : zkc (σ.2.2 k) = true := zkc_2.2.mpr (by omega)
      have hi : (σ.2.2 k).2.1 < d := by have := hs.2.1; rw [kc] at this; exact this
      have hj : (σ.2.2 k).2.2.1 < d := by have := (hs.2.2.1 (by omega)).1; rw [kc] at this; exact this
      have ej : zsj (σ.2.2 k) = Int32.ofNat (σ.2.2 k).2.2.1 := zsj_n (by omega)
      refine ⟨(σ.2.2 k).2.1, rfl, by omega, (σ.2.2 k).2.2.1, ej, by omega, ?_⟩
      refine ih (o.bind (zvs r (σ.2.2 k))) _ _ _ _ _ _ _ _ (by omega) ?_ H
      have e1 : zvs r (σ.2.2 k) = fun V => some (zvu (zvu V (σ.2.2 k).2.1 (V (σ.2.2 k).2.2.1)) (σ.2.2 k).2.2.1 (V (σ.2.2 k).2.1)) := by
        funext V
        unfold zvs
        rw [if_pos k3]
      rw [e1]
      generalize (σ.2.2 k).2.1 = a at *
      generalize (σ.2.2 k).2.2.1 = b at *
      have cell : ∀ x, x < 4 → (va_up (va_up vf a (vf b)) b (vf a) x, va_up (va_up vs a (vs b)) b (vs a) x) = if x = b then (vf a, vs a) else if x = a then (vf b, vs b) else (vf x, vs x) := by
        intro x _
        by_cases h1 : x = b
        · subst h1; rw [va_up_self, va_up_self, if_pos rfl]
        · rw [va_up_ne _ _ h1, va_up_ne _ _ h1, if_neg h1]
          by_cases h2 : x = a
          · subst h2; rw [va_up_self, va_up_self, if_pos rfl]
          · rw [va_up_ne _ _ h2, va_up_ne _ _ h2, if_neg h2]
      refine ⟨fun x hx => ?_, ?_⟩
      · rw [cell x hx]
        split
        · exact hV.1 a (by omega)
        · split
          · exact hV.1 b (by omega)
          · exact hV.1 x hx
      · cases o with
        | none => exact hV.2
        | some V =>
          refine ⟨hV.2.1, fun x hx => ?_⟩
          rw [cell x hx]
          show zvu (zvu V a (V b)) b (V a) x = _
          unfold zvu
          split
          · exact hV.2.2 a (by omega)
          · split
            · exact hV.2.2 b (by omega)
            · exact hV.2.2 x hx
