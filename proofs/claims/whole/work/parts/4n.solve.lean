/-! SOLVE: quotients -/
def zqs (r t : Nat) (E : zMe) (V0 : zVe) : Nat → Nat → zVe → Option zVe
  | 0, _, V => some V
  | n + 1, x, V => if x < t then (if zrem r (V0 x) (E x x) = some (0, 0) then zqs r t E V0 n (x + 1) (zvu V x (zquo r (V0 x) (E x x))) else none) else if V0 x = (0, 0) then zqs r t E V0 n (x + 1) V else none
/-- hasQuotients -/
theorem s209 {K : zKt} {code rf rs pr pn : Int32} {J : zJt} {m pa pb pc vf vs : Nat → Int32} {B : zBt} {w : Nat → Int64} {p : Nat × Nat} {Q : zR → zH → Prop} {r h d t : Nat} {O E : zMe} {σ : zFo} (hsh : zsh r h d) (hb : zRb m 3204 r h d O σ) (hw : zwf r h d O σ) (hE : zRE m 4276 E) (hok : ∀ a c, zok r (E a c)) (ht : t ≤ h) (htd : t ≤ d) (hdg : ∀ k, k < t → σ.2.1 k k ≠ (0, 0))
    (H1 : ∀ V, zqs r t σ.2.1 (fun k => E k 0) h 0 (fun _ => (0, 0)) = some V → ∀ rf' rs' pa' pb' pc' vf' vs', zVB r vf' vs' false (some V) → Q (.inl (some (.int 1))) (zh K (code, rf', rs', false, pr, pn, J) (m, pa', pb', pc', vf', vs', B) w))
    (H2 : zqs r t σ.2.1 (fun k => E k 0) h 0 (fun _ => (0, 0)) = none → ∀ rf' rs' pa' pb' pc' vf' vs', Q (.inl (some (.int 0))) (zh K (code, rf', rs', false, pr, pn, J) (m, pa', pb', pc', vf', vs', B) w)) : zT zm_209 [.ref 75, .int (Int32.ofNat t)] p (zh K (code, rf, rs, false, pr, pn, J) (m, pa, pb, pc, vf, vs, B) w) Q := by
  have hr := hsh.1
  have h4 := hsh.2.2.1
  have h5 := hsh.2.2.2.2
  have l2 : ∀ (n x : Nat) (V : zVe) (rf rs : Int32) (pa pb pc vf vs : Nat → Int32), x + n = h → zVB r vf vs false (some V) → zqs r t σ.2.1 (fun k => E k 0) n x V = zqs r t σ.2.1 (fun k => E k 0) h 0 (fun _ => (0, 0)) → zW zm_209 38 [some (.ref 75), some (.int (Int32.ofNat t)), some (.int (Int32.ofNat r)), some (.int (Int32.ofNat x)), none, none] [] p (zh K (code, rf, rs, false, pr, pn, J) (m, pa, pb, pc, vf, vs, B) w) Q := by
    intro n
    induction n with
    | zero =>
      intro x V rf rs pa pb pc vf vs hx hV eo
      refine b209_38 ?_
      rw [show m 3205 = Int32.ofNat h from hb.1.2.1, zN_leI (by omega) (by omega)]
      exact ⟨fun _ => H1 V eo.symm rf rs pa pb pc vf vs hV, fun h => absurd (by omega) h⟩
    | succ n ih =>
      intro x V rf rs pa pb pc vf vs hx hV eo
      have e1 := hE x 0 (by omega) (by omega)
      have e2 := hb.2.2.1 x x (by omega) (by omega)
      rw [zqs] at eo
      refine b209_38 ?_
      rw [show m 3205 = Int32.ofNat h from hb.1.2.1, zN_leI (by omega) (by omega), e1.1, e1.2, show m (3208 + 8 * x + 2 * x) = _ from e2.1, show m (3208 + 8 * x + 2 * x + 1) = _ from e2.2]
      refine ⟨fun h => absurd h (by omega), fun _ => ⟨by omega, by omega, fun hlt => ⟨fun h => (by omega), fun _ => ⟨by omega, by omega, by omega, by omega, ?_⟩⟩, fun hge => ⟨by omega, by omega, fun hz => ⟨fun _ => ?_, fun h => (by omega)⟩, fun hz => ?_⟩⟩⟩
      · rw [if_pos hlt] at eo
        have o1 := hok x 0
        have o2 := hw.2.1.1 x x
        have nz := hdg x hlt
        obtain ⟨v, ev⟩ := zrem_some hr o1 o2 nz
        refine s204 hr o1 o2 nz (fun pa' pb' pc' => b209_141 ?_)
        rw [show zrem r ((E x 0).1, (E x 0).2) ((σ.2.1 x x).1, (σ.2.1 x x).2) = some v from ev]
        refine ⟨fun hz => ⟨by omega, by omega, by omega, by omega, ?_⟩, fun hz => ?_⟩
        · have hv0 : v = (0, 0) := (zzr_t (a := v)).mp hz
          rw [if_pos (show zrem r (E x 0) (σ.2.1 x x) = some (0, 0) by rw [ev, hv0])] at eo
          rw [e1.1, e1.2, show m (3208 + 8 * x + 2 * x) = _ from e2.1, show m (3208 + 8 * x + 2 * x + 1) = _ from e2.2]
          refine s191 hr o1 o2 nz (fun pa2 pb2 pc2 => b209_194 ⟨by omega, ?_⟩)
          refine ih (x + 1) _ _ _ _ _ _ _ _ (by omega) ?_ eo
          exact zVB_u (k := x) (q := fun _ => some (zquo r (E x 0) (σ.2.1 x x))) (p := some (zquo r (E x 0) (σ.2.1 x x))) hV (by omega) (fun u eu => by cases eu; exact zok_quo hr o1 o2 nz) (fun _ _ => rfl) hr
        · have hv0 : v ≠ (0, 0) := (zzr_f (a := v)).mp hz
          rw [if_neg (show ¬ zrem r (E x 0) (σ.2.1 x x) = some (0, 0) by rw [ev]; exact fun h => hv0 (Option.some.inj h))] at eo
          exact H2 eo.symm _ _ _ _ _ _ _
      · rw [if_neg (by omega), if_pos ((zzr_t (a := E x 0)).mp hz)] at eo
        exact ih (x + 1) V rf rs pa pb pc vf vs (by omega) hV eo
      · rw [if_neg (by omega), if_neg ((zzr_f (a := E x 0)).mp hz)] at eo
        exact H2 eo.symm _ _ _ _ _ _ _
  have l1 : ∀ (n x : Nat) (vf vs : Nat → Int32), x + n = 4 → (∀ k, k < x → vf k = 0 ∧ vs k = 0) → zW zm_209 11 [some (.ref 75), some (.int (Int32.ofNat t)), some (.int (Int32.ofNat r)), some (.int (Int32.ofNat x)), none, none] [] p (zh K (code, rf, rs, false, pr, pn, J) (m, pa, pb, pc, vf, vs, B) w) Q := by
    intro n
    induction n with
    | zero =>
      intro x vf vs hx hz
      refine b209_11 ⟨by omega, fun _ => l2 h 0 (fun _ => (0, 0)) rf rs pa pb pc vf vs (by omega) ⟨fun k hk => ?_, rfl, fun k hk => ?_⟩ rfl, fun h => (by omega)⟩
      · rw [(hz k (by omega)).1, (hz k (by omega)).2]; exact zok_0 hr
      · rw [(hz k (by omega)).1, (hz k (by omega)).2]
    | succ n ih =>
      intro x vf vs hx hz
      refine b209_11 ⟨by omega, fun h => (by omega), fun _ => ⟨by omega, ih (x + 1) _ _ (by omega) (fun k hk => ?_)⟩⟩
      by_cases hkx : k = x
      · subst hkx; rw [va_up_self, va_up_self]; exact ⟨rfl, rfl⟩
      · rw [va_up_ne _ _ hkx, va_up_ne _ _ hkx]; exact hz k (by omega)
  refine b209 ?_
  rw [show m 3204 = Int32.ofNat r from hb.1.1]
  exact l1 4 0 vf vs (by omega) (fun k hk => absurd hk (Nat.not_lt_zero k))
def zvm (V : zVe) : zMe := fun a c => if c = 0 then V a else (0, 0)
/-- divideSides -/
theorem s122 {P : zPt} {T : Nat → zX} {Y : zYt} {I : zIt} {A : zAt} {w : Nat → Int64} {p : Nat × Nat} {Q : zR → zH → Prop} {r h d t : Nat} {O E : zMe} {σ : zFo} (hsh : zsh r h d) (hX : zCX (T 3) r h d O σ) (hw : zwf r h d O σ) (hXb4 : zXb (T 4)) (hh4 : zCh (T 4) r h 1) (he4 : zCe (T 4).2.2.2.2.1 E) (hE : zEw r h 1 E) (ht : t ≤ h) (htd : t ≤ d) (hdg : ∀ k, k < t → σ.2.1 k k ≠ (0, 0))
    (H1 : ∀ V, zqs r t σ.2.1 (fun k => E k 0) h 0 (fun _ => (0, 0)) = some V → ∀ P' T', zTo 5 T T' → zXb (T' 5) → zCh (T' 5) r d 1 → zCe (T' 5).2.2.2.2.1 (zvm V) → zEw r d 1 (zvm V) → Q (.inl (some (.int 1))) (zh (P', T', Y) I A w))
    (H2 : zqs r t σ.2.1 (fun k => E k 0) h 0 (fun _ => (0, 0)) = none → ∀ P' T', zTo 5 T T' → zXb (T' 5) → Q (.inl (some (.int 0))) (zh (P', T', Y) I A w)) : zT zm_122 [.ref 0, .int (Int32.ofNat t)] p (zh (P, T, Y) I A w) Q := by
  have hr := hsh.1
  have h4 := hsh.2.2.1
  have h5 := hsh.2.2.2.2
  have hXb3 := zCX_b hsh hw hX
  have lp : ∀ (n x : Nat) (V : zVe) P T1, x + n = h → zTo 5 T T1 → zXb (T1 5) → zCh (T1 5) r d 1 → zCe (T1 5).2.2.2.2.1 (zvm V) → (∀ k, zok r (V k)) → (∀ k, t ≤ k ∨ x ≤ k → V k = (0, 0)) → zqs r t σ.2.1 (fun k => E k 0) n x V = zqs r t σ.2.1 (fun k => E k 0) h 0 (fun _ => (0, 0)) → zW zm_122 26 [some (.ref 0), some (.int (Int32.ofNat t)), some (.ref (zra r)), some (.int (Int32.ofNat x)), none, none, none, none] [] p (zh (P, T1, Y) I A w) Q := by
    intro n
    induction n with
    | zero =>
      intro x V P T1 hx f1 f2 f3 f4 f5 f6 eo
      have t4 : T1 4 = T 4 := f1 4 (by omega)
      refine b122_26 ?_
      rw [t4, hh4.2.1]
      refine ⟨by omega, by omega, fun _ => H1 V eo.symm P T1 f1 f2 f3 f4 ⟨fun a c => ?_, fun a c hac => ?_⟩, fun h => (by omega)⟩
      · unfold zvm; split
        · exact f5 a
        · exact zok_0 hr
      · unfold zvm; split
        · exact f6 a (by omega)
        · rfl
    | succ n ih =>
      intro x V P T1 hx f1 f2 f3 f4 f5 f6 eo
      have t4 : T1 4 = T 4 := f1 4 (by omega)
      have t3 : T1 3 = T 3 := f1 3 (by omega)
      rw [zqs] at eo
      refine b122_26 ?_
      rw [t4, t3, hh4.2.1, show (0 : Int32) = Int32.ofNat 0 from rfl, zxat_e hXb4 hh4 he4 hE (by omega) (by omega), zxat_e hXb3 hX.1 hX.2.2.1 hw.2.1 (by omega) (by omega)]
      refine ⟨by omega, by omega, fun h => (by omega), fun _ => ⟨hXb4, by omega, fun hlt => ⟨hXb3, ?_⟩, fun hge => ⟨fun hz => ?_, fun hz => ?_⟩⟩⟩
      · rw [if_pos hlt] at eo
        have o1 := hE.1 x 0
        have o2 := hw.2.1.1 x x
        have nz := hdg x hlt
        obtain ⟨v, ev⟩ := zrem_some hr o1 o2 nz
        refine c_rem hr o1 o2 nz (fun v' ev' P' => b122_81 ?_)
        rw [ev] at ev'
        cases ev'
        refine ⟨fun hz => ?_, fun hz => ?_⟩
        · have hv0 := zen_z.mp hz
          rw [if_pos (show zrem r (E x 0) (σ.2.1 x x) = some (0, 0) by rw [ev, hv0])] at eo
          refine c_quo hr o1 o2 nz (fun P2 => b122_102 ?_)
          refine s32 (by omega) f2 f3 (show x < d by omega) (show 0 < 1 by omega) (b122_105 (ih (x + 1) _ P2 _ (by omega) (fun k hk => ?_) ?_ ?_ ?_ (fun k => ?_) (fun k hk => ?_) eo))
          · rw [va_up_ne _ _ hk]; exact f1 k hk
          · rw [va_up_self]; exact f2
          · rw [va_up_self]; exact f3
          · rw [va_up_self]
            intro a c ha hc
            show va_up (T1 5).2.2.2.2.1 (x * 4 + 0) _ (a * 4 + c) = zen (if c = 0 then zvu V x _ a else (0, 0))
            unfold zvu
            by_cases hac : a = x ∧ c = 0
            · obtain ⟨rfl, rfl⟩ := hac
              rw [va_up_self, if_pos rfl, if_pos rfl]
            · rw [va_up_ne _ _ (by omega), f4 a c ha hc]
              unfold zvm
              by_cases hc0 : c = 0
              · rw [if_pos hc0, if_pos hc0, if_neg (by omega)]
              · rw [if_neg hc0, if_neg hc0]
          · unfold zvu; split
            · exact zok_quo hr o1 o2 nz
            · exact f5 k
          · unfold zvu
            rw [if_neg (by omega)]
            exact f6 k (by omega)
        · rw [if_neg (show ¬ zrem r (E x 0) (σ.2.1 x x) = some (0, 0) by rw [ev]; exact fun h => hz (zen_z.mpr (Option.some.inj h)))] at eo
          exact H2 eo.symm P' T1 f1 f2
      · rw [if_neg (by omega), if_pos (zen_z.mp hz)] at eo
        exact ih (x + 1) V P T1 (by omega) f1 f2 f3 f4 f5 (fun k hk => f6 k (by omega)) eo
      · rw [if_neg (by omega), if_neg (fun h => hz (zen_z.mpr h))] at eo
        exact H2 eo.symm P T1 f1 f2
  refine b122 ?_
  rw [hX.1.1, hX.1.2.2]
  refine s28 (i := 5) (h := d) (d := 1) (by omega) (fun T' f1 f2 => b122_24 (lp h 0 (fun _ => (0, 0)) P T' (by omega) f1 ?_ (f2 zg0).1 ?_ (fun _ => zok_0 hr) (fun _ _ => rfl) rfl))
  · have hf := f2 zg0
    exact ⟨by rw [hf.1.2.1]; omega, by rw [hf.1.2.2]; omega, by rw [hf.2.1]; show 0 ≤ 200; omega⟩
  · have hf := (f2 zg0).2.2.1
    intro a c ha hc
    rw [hf a c ha hc]
    unfold zvm
    split <;> rfl
def zsol (X X' : zMt) (q : Nat × zFo) : Option (Option zVe) := match ztf X.1 X.2.1 1 false q.2.2.2 q.2.1 0 (some (0, X'.2.2.2.2.2.1, zg0)) with
  | none => none
  | some τ => match zqs X.1 q.1 q.2.2.1 (fun k => τ.2.1 k 0) X.2.1 0 (fun _ => (0, 0)) with
    | none => some none
    | some V => match zvb X.1 q.2.2.2 q.2.1 V with
      | none => none
      | some V' => some (some V')
def zc_solve (S : zSs) (a0 a1 a2 : Int32) : (Int32 ⊕ Nat) × zSs := if zslot a0 = false ∨ zslot a1 = false ∨ zslot a2 = false then (.inr 0, S) else match S (znn a0), S (znn a1) with
  | some X, some X' => if X.1 = X'.1 ∧ X'.2.2.1 = 1 ∧ X'.2.1 = X.2.1 then (match zfS (zfr0 X) with
      | none => (.inr 3, S)
      | some q => match zsol X X' q with
        | none => (.inr 3, S)
        | some none => (.inl 0, S)
        | some (some V) => (.inl 1, zup S (znn a2) (X.1, X.2.2.1, 1, zvm V, (0, zvm V, zg0)))) else (.inr 1, S)
  | _, _ => (.inr 1, S)
