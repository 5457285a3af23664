/-! MATRICES IN THE MIDDLE: entries; steps (kind, target, source, factor); count, entries and log -/
abbrev zMe : Type := Nat → Nat → zE2
abbrev zSt : Type := Nat × Nat × Nat × zE2
abbrev zFo : Type := Nat × zMe × (Nat → zSt)
def zkc (s : zSt) : Bool := Nat.blt 2 s.1
/-- places of a line, lines -/
def zplc (h d : Nat) (c : Bool) : Nat := bif c then h else d
def zll (h d : Nat) (c : Bool) : Nat := bif c then d else h
def zlg (c : Bool) (E : zMe) (l q : Nat) : zE2 := bif c then E q l else E l q
/-- what a step puts at a place of its target -/
def zap1 (r : Nat) (E : zMe) (s : zSt) (k : Nat) : Option zE2 :=
  if s.1 % 3 = 0 then some (zlg (zkc s) E s.2.2.1 k) else if s.1 % 3 = 1 then zplus r (zlg (zkc s) E s.2.1 k) s.2.2.2 (zlg (zkc s) E s.2.2.1 k) else zplus r (0, 0) s.2.2.2 (zlg (zkc s) E s.2.1 k)
def zapL (r n : Nat) (E : zMe) (s : zSt) (l q : Nat) : zE2 :=
  if q < n then (if l = s.2.1 then (zap1 r E s q).getD (0, 0) else if s.1 % 3 = 0 ∧ l = s.2.2.1 then zlg (zkc s) E s.2.1 q else zlg (zkc s) E l q) else zlg (zkc s) E l q
/-- the entries behind the first n places of a step -/
def zapE (r n : Nat) (E : zMe) (s : zSt) : zMe := fun a c => bif zkc s then zapL r n E s c a else zapL r n E s a c
theorem zlg_E (r n : Nat) (E : zMe) (s : zSt) (l q : Nat) : zlg (zkc s) (zapE r n E s) l q = zapL r n E s l q := by
  unfold zlg zapE
  cases zkc s <;> rfl
def zap (r h d : Nat) (E : zMe) (s : zSt) : Option zMe := if ∀ k, k < zplc h d (zkc s) → (zap1 r E s k).isSome = true then some (zapE r (zplc h d (zkc s)) E s) else none
def zun (r : Nat) (f : zE2) : Prop := match r with
  | 0 => (f.1 = 1 ∨ f.1 = -1) ∧ f.2 = 0
  | 1 => (f.1 = 0 ∧ (f.2 = 1 ∨ f.2 = -1)) ∨ (f.2 = 0 ∧ (f.1 = 1 ∨ f.1 = -1))
  | q => ∃ v, 1 ≤ v ∧ v < q ∧ f = (Int32.ofNat v, 0)
theorem zun_p {q : Nat} (hq : zprm q) {e : zE2} : zun q e ↔ ∃ v, 1 ≤ v ∧ v < q ∧ e = (Int32.ofNat v, 0) := by
  rcases hq with rfl | rfl | rfl | rfl <;> exact Iff.rfl
theorem zun_ok {r : Nat} (hr : zrg r) {f : zE2} (h : zun r f) : zok r f := by
  by_cases h0 : r = 0
  · subst h0
    obtain ⟨h1, h2⟩ := h
    rcases h1 with h1 | h1 <;> exact ⟨by rw [h1]; decide, by rw [h1]; decide, h2⟩
  · by_cases h1 : r = 1
    · subst h1
      rcases h with ⟨h1, h2 | h2⟩ | ⟨h2, h1 | h1⟩ <;> exact ⟨by rw [h1]; decide, by rw [h1]; decide, by rw [h2]; decide, by rw [h2]; decide⟩
    · have hq : zprm r := by unfold zrg at hr; unfold zprm; omega
      have hq7 := zprm_lt hq
      obtain ⟨v, h2, h3, rfl⟩ := (zun_p hq).mp h
      refine (zok_p hq).mpr ⟨v, Nat.lt_of_lt_of_le (show v < r ^ 1 by rw [Nat.pow_one]; exact h3) (Nat.pow_le_pow_right (by omega) (by decide)), rfl⟩
/-- a step that fits -/
def zsv (r h d : Nat) (s : zSt) : Prop := s.1 < 6 ∧ s.2.1 < zll h d (zkc s) ∧ (s.1 % 3 ≠ 2 → s.2.2.1 < zll h d (zkc s) ∧ s.2.2.1 ≠ s.2.1) ∧ (s.1 % 3 = 2 → s.2.2.1 = 0 ∧ zun r s.2.2.2) ∧ zok r s.2.2.2 ∧ (s.1 % 3 = 0 → s.2.2.2 = (0, 0))
def zEw (r h d : Nat) (E : zMe) : Prop := (∀ a c, zok r (E a c)) ∧ (∀ a c, ¬ (a < h ∧ c < d) → E a c = (0, 0))
def zrp (r h d : Nat) (O : zMe) (g : Nat → zSt) : Nat → Option zMe
  | 0 => some O
  | n + 1 => match zrp r h d O g n with
    | none => none
    | some E => zap r h d E (g n)
def zwf (r h d : Nat) (O : zMe) (σ : zFo) : Prop := σ.1 ≤ 200 ∧ zEw r h d σ.2.1 ∧ zEw r h d O ∧ (∀ k, k < σ.1 → zsv r h d (σ.2.2 k)) ∧ zrp r h d O σ.2.2 σ.1 = some σ.2.1
def zsh (r h d : Nat) : Prop := zrg r ∧ 1 ≤ h ∧ h ≤ 4 ∧ 1 ≤ d ∧ d ≤ 4
/-- a step with its place in the log -/
def zdo (r h d : Nat) (s : zSt) (σ : zFo) : Option zFo := if σ.1 = 200 then none else match zap r h d σ.2.1 s with
  | none => none
  | some E => some (σ.1 + 1, E, va_up σ.2.2 σ.1 s)
theorem zap_some {r h d : Nat} {E E' : zMe} {s : zSt} (e : zap r h d E s = some E') : (∀ k, k < zplc h d (zkc s) → (zap1 r E s k).isSome = true) ∧ E' = zapE r (zplc h d (zkc s)) E s := by
  unfold zap at e
  split at e
  · rename_i hk; exact ⟨hk, (Option.some.inj e).symm⟩
  · cases e
theorem zlg_ok {r h d : Nat} {E : zMe} (hE : zEw r h d E) (c : Bool) (l q : Nat) : zok r (zlg c E l q) := by
  unfold zlg
  cases c
  · exact hE.1 l q
  · exact hE.1 q l
theorem zap1_ok {r h d : Nat} (hr : zrg r) {E : zMe} (hE : zEw r h d E) {s : zSt} (hf : zok r s.2.2.2) {k : Nat} {v : zE2} (e : zap1 r E s k = some v) : zok r v := by
  unfold zap1 at e
  split at e
  · cases e; exact zlg_ok hE _ _ _
  · split at e
    · exact zok_plus hr (zlg_ok hE _ _ _) hf (zlg_ok hE _ _ _) e
    · exact zok_plus hr (zok_0 hr) hf (zlg_ok hE _ _ _) e
theorem zapL_ok {r h d n : Nat} (hr : zrg r) {E : zMe} (hE : zEw r h d E) {s : zSt} (hf : zok r s.2.2.2) (l q : Nat) : zok r (zapL r n E s l q) := by
  unfold zapL
  split
  · split
    · cases e : zap1 r E s q with
      | none => exact zok_0 hr
      | some v => exact zap1_ok hr hE hf e
    · split
      · exact zlg_ok hE _ _ _
      · exact zlg_ok hE _ _ _
  · exact zlg_ok hE _ _ _
theorem zapE_w {r h d n : Nat} (hr : zrg r) {E : zMe} (hE : zEw r h d E) {s : zSt} (hs : zsv r h d s) (hn : n ≤ zplc h d (zkc s)) : zEw r h d (zapE r n E s) := by
  obtain ⟨h1, h2, h3, h4, h5, h6⟩ := hs
  refine ⟨fun a c => ?_, fun a c hac => ?_⟩
  · unfold zapE
    cases zkc s
    · exact zapL_ok hr hE h5 a c
    · exact zapL_ok hr hE h5 c a
  · have key : ∀ l q, (q < zplc h d (zkc s) → ¬ l < zll h d (zkc s)) → zlg (zkc s) E l q = (0, 0) → zapL r n E s l q = (0, 0) := by
      intro l q hlq hz
      unfold zapL
      split
      · rename_i hq
        have := hlq (by omega)
        rw [if_neg (by omega)]
        split
        · rename_i h0
          have := (h3 (by omega)).1
          omega
        · exact hz
      · exact hz
    unfold zapE
    cases hc : zkc s with
    | false =>
      rw [hc] at key
      refine key a c (fun hq hl => hac ?_) ?_
      · simp only [zplc, zll, cond_false] at hq hl; exact ⟨hl, hq⟩
      · exact hE.2 a c hac
    | true =>
      rw [hc] at key
      refine key c a (fun hq hl => hac ?_) ?_
      · simp only [zplc, zll, cond_true] at hq hl; exact ⟨hq, hl⟩
      · exact hE.2 a c hac
theorem zap_w {r h d : Nat} (hr : zrg r) {E E' : zMe} (hE : zEw r h d E) {s : zSt} (hs : zsv r h d s) (e : zap r h d E s = some E') : zEw r h d E' := by
  obtain ⟨_, rfl⟩ := zap_some e
  exact zapE_w hr hE hs (Nat.le_refl _)
theorem zrp_congr {r h d : Nat} {O : zMe} {g g' : Nat → zSt} {n : Nat} (hg : ∀ k, k < n → g k = g' k) : zrp r h d O g n = zrp r h d O g' n := by
  induction n with
  | zero => rfl
  | succ n ih =>
    simp only [zrp]
    rw [ih (fun k hk => hg k (by omega)), hg n (by omega)]
theorem zdo_some {r h d : Nat} {s : zSt} {σ τ : zFo} (e : zdo r h d s σ = some τ) : σ.1 ≠ 200 ∧ ∃ E, zap r h d σ.2.1 s = some E ∧ τ = (σ.1 + 1, E, va_up σ.2.2 σ.1 s) := by
  unfold zdo at e
  split at e
  · cases e
  · rename_i h2
    split at e
    · cases e
    · rename_i E hE; exact ⟨h2, E, hE, (Option.some.inj e).symm⟩
theorem zdo_w {r h d : Nat} (hr : zrg r) {O : zMe} {s : zSt} {σ τ : zFo} (hw : zwf r h d O σ) (hs : zsv r h d s) (e : zdo r h d s σ = some τ) : zwf r h d O τ := by
  obtain ⟨h2, E, hE, rfl⟩ := zdo_some e
  obtain ⟨w1, w2, w3, w4, w5⟩ := hw
  refine ⟨by show σ.1 + 1 ≤ 200; omega, zap_w hr w2 hs hE, w3, fun k hk => ?_, ?_⟩
  · show zsv r h d (va_up σ.2.2 σ.1 s k)
    by_cases hk2 : k = σ.1
    · subst hk2; rw [va_up_self]; exact hs
    · rw [va_up_ne _ _ hk2]; exact w4 k (by have : k < σ.1 + 1 := hk; omega)
  · show zrp r h d O (va_up σ.2.2 σ.1 s) (σ.1 + 1) = some E
    simp only [zrp]
    rw [zrp_congr (g' := σ.2.2) (fun k hk => va_up_ne _ _ (by omega)), w5, va_up_self]
    exact hE
theorem zdo_c {r h d : Nat} {s : zSt} {σ τ : zFo} (e : zdo r h d s σ = some τ) : τ.1 = σ.1 + 1 := by
  obtain ⟨_, E, _, rfl⟩ := zdo_some e
  rfl
theorem zrp_pre {r h d : Nat} {O : zMe} {g : Nat → zSt} {n : Nat} {E : zMe} (e : zrp r h d O g n = some E) : ∀ k, k ≤ n → ∃ F, zrp r h d O g k = some F := by
  induction n generalizing E with
  | zero => intro k hk; have : k = 0 := by omega
            subst this; exact ⟨O, rfl⟩
  | succ n ih =>
    intro k hk
    by_cases hkn : k = n + 1
    · subst hkn; exact ⟨E, e⟩
    · simp only [zrp] at e
      cases hF : zrp r h d O g n with
      | none => rw [hF] at e; cases e
      | some F => exact ih hF k (by omega)
theorem zrp_w {r h d : Nat} (hr : zrg r) {O : zMe} {g : Nat → zSt} (hO : zEw r h d O) {n : Nat} {E : zMe} (hg : ∀ k, k < n → zsv r h d (g k)) (e : zrp r h d O g n = some E) : zEw r h d E := by
  induction n generalizing E with
  | zero => cases e; exact hO
  | succ n ih =>
    simp only [zrp] at e
    cases hF : zrp r h d O g n with
    | none => rw [hF] at e; cases e
    | some F =>
      rw [hF] at e
      exact zap_w hr (ih (fun k hk => hg k (by omega)) hF) (hg n (by omega)) e
