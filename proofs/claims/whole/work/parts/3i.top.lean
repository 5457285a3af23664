/-! THE CALLS in the middle: slots; an answer, or an exception (0 index, 1 state, 2 argument, 3 arithmetic) -/
abbrev zMt : Type := Nat × Nat × Nat × zMe × zFo
abbrev zSs : Type := Nat → Option zMt
def zg0 : Nat → zSt := fun _ => (0, 0, 0, (0, 0))
def znn (x : Int32) : Nat := x.toNatClampNeg
theorem znn_o {k : Nat} (h : k < 2147483648) : znn (Int32.ofNat k) = k := zN_cl h (Nat.le_refl _)
def zcel (h d : Nat) (x y : Int32) : Bool := decide (0 ≤ x.toInt ∧ x.toInt < (h : Int) ∧ 0 ≤ y.toInt ∧ y.toInt < (d : Int))
def zlin (n : Nat) (x : Int32) : Bool := decide (0 ≤ x.toInt ∧ x.toInt < (n : Int))
def zpar (x : Int32) : Bool := zin x.toInt64 0 1
def zpv (e : zE2) (x : Int32) : Int32 := if x = 0 then e.1 else e.2
def zupE (E : zMe) (a c : Nat) (v : zE2) : zMe := fun i j => if i = a ∧ j = c then v else E i j
def zup (S : zSs) (k : Nat) (X : zMt) : zSs := va_up S k (some X)
def zc_create (S : zSs) (a0 a1 a2 a3 : Int32) : (Int32 ⊕ Nat) × zSs :=
  if zslot a0 = false then (.inr 0, S) else if zisr a1 = false ∨ zin a2.toInt64 1 4 = false ∨ zin a3.toInt64 1 4 = false then (.inr 2, S) else
  (.inl (if (S (znn a0)).isNone = true then 1 else 0), zup S (znn a0) (znn a1, znn a2, znn a3, zZ, (0, zZ, zg0)))
/-- a call on a filled slot -/
def zwith {α : Type} (S : zSs) (a0 : Int32) (f : zMt → (α ⊕ Nat) × zSs) : (α ⊕ Nat) × zSs := if zslot a0 = false then (.inr 0, S) else match S (znn a0) with
  | none => (.inr 1, S)
  | some X => f X
def zc_set (S : zSs) (a0 a1 a2 a3 a4 : Int32) : (Int32 ⊕ Nat) × zSs := zwith S a0 (fun X =>
  if zcel X.2.1 X.2.2.1 a1 a2 = true ∧ zise (Int32.ofNat X.1) a3 a4 = true then (.inl (X.2.2.2.2.2.1 (znn a1) (znn a2)).1, zup S (znn a0) (X.1, X.2.1, X.2.2.1, zupE X.2.2.2.2.2.1 (znn a1) (znn a2) (a3, a4), (0, zupE X.2.2.2.2.2.1 (znn a1) (znn a2) (a3, a4), zg0))) else (.inr 2, S))
def zc_copy (S : zSs) (a0 a1 : Int32) : (Int32 ⊕ Nat) × zSs := if zslot a0 = false ∨ zslot a1 = false then (.inr 0, S) else match S (znn a0) with
  | none => (.inr 1, S)
  | some X => (.inl (Int32.ofNat X.2.2.2.2.1), zup S (znn a1) X)
def zc_of (S : zSs) (a0 : Int32) (f : zMt → Nat) (e : Int32) : (Int32 ⊕ Nat) × zSs := if zslot a0 = false then (.inr 0, S) else match S (znn a0) with
  | none => (.inl e, S)
  | some X => (.inl (Int32.ofNat (f X)), S)
def zc_entry (S : zSs) (a0 a1 a2 a3 : Int32) : (Int32 ⊕ Nat) × zSs := zwith S a0 (fun X =>
  if zcel X.2.1 X.2.2.1 a1 a2 = true ∧ zpar a3 = true then (.inl (zpv (X.2.2.2.2.2.1 (znn a1) (znn a2)) a3), S) else (.inr 2, S))
/-- a step on a slot -/
def zdoS (S : zSs) (a0 : Int32) (X : zMt) (s : zSt) : (Int32 ⊕ Nat) × zSs := match zdo X.1 X.2.1 X.2.2.1 s X.2.2.2.2 with
  | none => (.inr 3, S)
  | some τ => (.inl (Int32.ofNat τ.1), zup S (znn a0) (X.1, X.2.1, X.2.2.1, X.2.2.2.1, τ))
def zc_swap (S : zSs) (a0 : Int32) (c : Bool) (a2 a3 : Int32) : (Int32 ⊕ Nat) × zSs := zwith S a0 (fun X =>
  if zlin (zll X.2.1 X.2.2.1 c) a2 = true ∧ zlin (zll X.2.1 X.2.2.1 c) a3 = true ∧ a2 ≠ a3 then zdoS S a0 X (bif c then 3 else 0, znn a2, znn a3, (0, 0)) else (.inr 2, S))
def zc_add (S : zSs) (a0 : Int32) (c : Bool) (a2 a3 a4 a5 : Int32) : (Int32 ⊕ Nat) × zSs := zwith S a0 (fun X =>
  if zlin (zll X.2.1 X.2.2.1 c) a2 = true ∧ zlin (zll X.2.1 X.2.2.1 c) a3 = true ∧ a2 ≠ a3 ∧ zise (Int32.ofNat X.1) a4 a5 = true then zdoS S a0 X (bif c then 4 else 1, znn a2, znn a3, (a4, a5)) else (.inr 2, S))
def zc_scale (S : zSs) (a0 : Int32) (c : Bool) (a2 a3 a4 : Int32) : (Int32 ⊕ Nat) × zSs := zwith S a0 (fun X =>
  if zlin (zll X.2.1 X.2.2.1 c) a2 = true ∧ zisu (Int32.ofNat X.1) a3 a4 = true then zdoS S a0 X (bif c then 5 else 2, znn a2, 0, (a3, a4)) else (.inr 2, S))
def zc_back (S : zSs) (a0 : Int32) : (Int32 ⊕ Nat) × zSs := zwith S a0 (fun X =>
  if X.2.2.2.2.1 = 0 then (.inr 1, S) else match zrp X.1 X.2.1 X.2.2.1 X.2.2.2.1 X.2.2.2.2.2.2 (X.2.2.2.2.1 - 1) with
    | none => (.inr 1, S)
    | some E => (.inl (Int32.ofNat (X.2.2.2.2.1 - 1)), zup S (znn a0) (X.1, X.2.1, X.2.2.1, X.2.2.2.1, (X.2.2.2.2.1 - 1, E, X.2.2.2.2.2.2))))
def zc_form (S : zSs) (a0 : Int32) (f : zMt → Option (Nat × zFo)) : (Int32 ⊕ Nat) × zSs := zwith S a0 (fun X => match f X with
  | none => (.inr 3, S)
  | some q => (.inl (Int32.ofNat q.1), zup S (znn a0) (X.1, X.2.1, X.2.2.1, X.2.2.2.1, q.2)))
def zfH (X : zMt) : Option (Nat × zFo) := zhrm X.1 X.2.1 X.2.2.1 X.2.2.1 0 0 X.2.2.2.2
def zfS (X : zMt) : Option (Nat × zFo) := zsmt X.1 X.2.1 X.2.2.1 205 true 0 X.2.2.2.2
/-- with an empty log -/
def zfr0 (X : zMt) : zMt := (X.1, X.2.1, X.2.2.1, X.2.2.2.2.2.1, (0, X.2.2.2.2.2.1, zg0))
def zsp (s : zSt) (k : Nat) : Int32 := match k with
  | 0 => Int32.ofNat s.1
  | 1 => Int32.ofNat s.2.1
  | 2 => zsj s
  | 3 => s.2.2.2.1
  | _ => s.2.2.2.2
def zc_step (S : zSs) (a0 a1 a2 : Int32) : (Int32 ⊕ Nat) × zSs := if zslot a0 = false then (.inr 0, S) else match S (znn a0) with
  | none => (.inr 0, S)
  | some X => if zlin X.2.2.2.2.1 a1 = false then (.inr 0, S) else if zin a2.toInt64 0 4 = false then (.inr 2, S) else (.inl (zsp (X.2.2.2.2.2.2 (znn a1)) (znn a2)), S)
def zc_after (S : zSs) (a0 a1 a2 a3 a4 : Int32) : (Int32 ⊕ Nat) × zSs := zwith S a0 (fun X =>
  if zlin (X.2.2.2.2.1 + 1) a1 = true ∧ zcel X.2.1 X.2.2.1 a2 a3 = true ∧ zpar a4 = true then match zrp X.1 X.2.1 X.2.2.1 X.2.2.2.1 X.2.2.2.2.2.2 (znn a1) with
    | none => (.inr 2, S)
    | some E => (.inl (zpv (E (znn a2) (znn a3)) a4), S) else (.inr 2, S))
/-- slots that fit -/
def zmw (X : zMt) : Prop := zsh X.1 X.2.1 X.2.2.1 ∧ zwf X.1 X.2.1 X.2.2.1 X.2.2.2.1 X.2.2.2.2
def zSw (S : zSs) : Prop := ∀ a X, a < 3 → S a = some X → zmw X
theorem zSw_up {S : zSs} {k : Nat} {X : zMt} (h : zSw S) (hX : zmw X) : zSw (zup S k X) := by
  intro a Y ha e
  unfold zup at e
  by_cases hk : a = k
  · subst hk; rw [va_up_self] at e; cases e; exact hX
  · rw [va_up_ne _ _ hk] at e; exact h a Y ha e
theorem zZ_w {r h d : Nat} (hr : zrg r) : zEw r h d zZ := ⟨fun _ _ => zok_0 hr, fun _ _ _ => rfl⟩
theorem zwf_0 {r h d : Nat} {E : zMe} {g : Nat → zSt} (hE : zEw r h d E) : zwf r h d E (0, E, g) := ⟨by show 0 ≤ 200; omega, hE, hE, fun k hk => absurd hk (Nat.not_lt_zero k), rfl⟩
theorem zise_ok {r : Nat} (hr : zrg r) {f s : Int32} : zise (Int32.ofNat r) f s = true ↔ zok r (f, s) := by
  have t : ∀ x : Int32, x.toInt64.toInt = x.toInt := Int32.toInt_toInt64
  have s0 : s = 0 ↔ s.toInt = 0 := by rw [← Int32.toInt_inj]; rfl
  unfold zise
  rcases zrg_c hr with rfl | rfl | hq
  · rw [show decide (Int32.ofNat 0 = 1) = false by decide, show decide (Int32.ofNat 0 = 0) = true by decide, cond_false, cond_true, Bool.and_eq_true, decide_eq_true_iff, zin_iff, t, show Int64.toInt (-1000000000) = -1000000000 from rfl, show Int64.toInt 1000000000 = 1000000000 from rfl]
    exact ⟨fun h => ⟨h.2.1, h.2.2, h.1⟩, fun h => ⟨h.2.2, h.1, h.2.1⟩⟩
  · rw [show decide (Int32.ofNat 1 = 1) = true by decide, cond_true, Bool.and_eq_true, zin_iff, zin_iff, t, t, show Int64.toInt (-30000) = -30000 from rfl, show Int64.toInt 30000 = 30000 from rfl]
    exact ⟨fun h => ⟨h.1.1, h.1.2, h.2.1, h.2.2⟩, fun h => ⟨⟨h.1, h.2.1⟩, h.2.2⟩⟩
  · have e1 : decide (Int32.ofNat r = 1) = false := by rcases hq with rfl | rfl | rfl | rfl <;> decide
    have e2 : decide (Int32.ofNat r = 0) = false := by rcases hq with rfl | rfl | rfl | rfl <;> decide
    have e3 : (zpw8 (Int32.ofNat r) - 1).toInt64.toInt = (r ^ 8 : Nat) - 1 := by rcases hq with rfl | rfl | rfl | rfl <;> decide
    have hpw := zpw_lt hq
    rw [e1, e2, cond_false, cond_false, Bool.and_eq_true, decide_eq_true_iff, zin_iff, t, e3, show Int64.toInt 0 = 0 from rfl, zok_p hq]
    constructor
    · rintro ⟨h1, h2, h3⟩
      obtain ⟨v, hv, rfl⟩ := zNn0 h2
      rw [zN_i hv] at h3
      exact ⟨v, by omega, by rw [h1]⟩
    · rintro ⟨v, hv, e⟩
      cases e
      rw [zN_i (by omega)]
      exact ⟨rfl, by omega, by omega⟩
theorem zisu_ok {r : Nat} (hr : zrg r) {f s : Int32} : zisu (Int32.ofNat r) f s = true ↔ zun r (f, s) := by
  have t : ∀ x : Int32, x.toInt64.toInt = x.toInt := Int32.toInt_toInt64
  unfold zisu
  rcases zrg_c hr with rfl | rfl | hq
  · rw [show decide (Int32.ofNat 0 = 0) = true by decide, cond_true, Bool.and_eq_true, Bool.or_eq_true, decide_eq_true_iff, decide_eq_true_iff, decide_eq_true_iff]
    exact ⟨fun h => ⟨h.2, h.1⟩, fun h => ⟨h.2, h.1⟩⟩
  · rw [show decide (Int32.ofNat 1 = 0) = false by decide, show decide (Int32.ofNat 1 = 1) = true by decide, cond_true, cond_false, Bool.or_eq_true, Bool.and_eq_true, Bool.and_eq_true, Bool.or_eq_true, Bool.or_eq_true, decide_eq_true_iff, decide_eq_true_iff, decide_eq_true_iff, decide_eq_true_iff, decide_eq_true_iff, decide_eq_true_iff]
    exact Iff.rfl
  · have e1 : decide (Int32.ofNat r = 1) = false := by rcases hq with rfl | rfl | rfl | rfl <;> decide
    have e2 : decide (Int32.ofNat r = 0) = false := by rcases hq with rfl | rfl | rfl | rfl <;> decide
    have e3 : (Int32.ofNat r - 1).toInt64.toInt = (r : Int) - 1 := by rcases hq with rfl | rfl | rfl | rfl <;> decide
    have hq7 := zprm_lt hq
    rw [e1, e2, cond_false, cond_false, Bool.and_eq_true, decide_eq_true_iff, zin_iff, t, e3, show Int64.toInt 1 = 1 from rfl, zun_p hq]
    constructor
    · rintro ⟨h1, h2, h3⟩
      obtain ⟨v, hv, rfl⟩ := zNn0 (x := f) (by omega)
      rw [zN_i hv] at h2 h3
      exact ⟨v, by omega, by omega, by rw [h1]⟩
    · rintro ⟨v, hv1, hv2, e⟩
      cases e
      rw [zN_i (by omega)]
      exact ⟨rfl, by omega, by omega⟩
theorem zcel_n {h d : Nat} {x y : Int32} (c : zcel h d x y = true) : ∃ a b, a < h ∧ b < d ∧ x = Int32.ofNat a ∧ y = Int32.ofNat b := by
  unfold zcel at c
  rw [decide_eq_true_iff] at c
  obtain ⟨a, ha, rfl⟩ := zNn0 c.1
  obtain ⟨b, hb, rfl⟩ := zNn0 c.2.2.1
  rw [zN_i ha, zN_i hb] at c
  exact ⟨a, b, by omega, by omega, rfl, rfl⟩
theorem zlin_n {n : Nat} {x : Int32} (c : zlin n x = true) : ∃ a, a < n ∧ x = Int32.ofNat a := by
  unfold zlin at c
  rw [decide_eq_true_iff] at c
  obtain ⟨a, ha, rfl⟩ := zNn0 c.1
  rw [zN_i ha] at c
  exact ⟨a, by omega, rfl⟩
theorem zupE_w {r h d a c : Nat} {E : zMe} {v : zE2} (hE : zEw r h d E) (ha : a < h) (hc : c < d) (hv : zok r v) : zEw r h d (zupE E a c v) := by
  refine ⟨fun i j => ?_, fun i j hij => ?_⟩
  · unfold zupE
    split
    · exact hv
    · exact hE.1 i j
  · unfold zupE
    rw [if_neg (by omega)]
    exact hE.2 i j hij
