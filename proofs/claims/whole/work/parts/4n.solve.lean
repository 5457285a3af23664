/-! SOLVE: quotients -/
def zqs (r t : Nat) (E : zMe) (V0 : zVe) : Nat → Nat → zVe → Option zVe
  | 0, _, V => some V
  | n + 1, x, V => if x < t then (if zrem r (V0 x) (E x x) = some (0, 0) then zqs r t E V0 n (x + 1) (zvu V x (zquo r (V0 x) (E x x))) else none) else if V0 x = (0, 0) then zqs r t E V0 n (x + 1) V else none
/-- hasQuotients -/
theorem s209 {K : zKt} {code rf rs pr pn : Int32} {J : zJt} {m pa pb pc vf vs : Nat → Int32} {B : zBt} {w : Nat → Int64} {p : Nat × Nat} {Q : zR → zH → Prop} {r h d t : Nat} {O E : zMe} {σ : zFo} (hsh : zsh r h d) (hb : zRb m 3204 r h d O σ) (hw : zwf r h d O σ) (hE : zRE m 4276 E) (hok : ∀ a c, zok r (E a c)) (ht : t ≤ h) (htd : t ≤ d) (hdg : ∀ k, k < t → σ.2.1 k k ≠ (0, 0))
    (H1 : ∀ V, zqs r t σ.2.1 (fun k => E k 0) h 0 (fun _ => (0, 0)) = some V → ∀ rf' rs' pa' pb' pc' vf' vs', zVB r vf' vs' false (some V) → Q (.inl (some (.int 1))) (zh K (code, rf', rs', false, pr, pn, J) (m, pa', pb', pc', vf', vs', B) w))
    (H2 : zqs r t σ.2.1 (fun k => E k 0) h 0 (fun _ => (0, 0)) = none → ∀ rf' rs' pa' pb' pc' vf' vs', Q (.inl (some (.int 0))) (zh K (code, rf', rs', false, pr, pn, J) (m, pa', pb', pc', vf', vs', B) w)) : zT zm_209 [.ref 75, .int (Int32.ofNat t)] p (zh K (code, rf, rs, false, pr, pn, J) (m, pa, pb, pc, vf, vs, B) w) Q := by
  have hr := hsh.1
  have h4 := hsh.2.2.1
  have h5 := hsh.2.2.2.2
  have l2 : ∀ (n x : Nat) (V : zVe) (rf rs : Int32) (pa pb pc vf vs : Nat → Int32), x + n = h → zVB r vf vs false (some V) → zqs r t σ.2.1 (fun k => E k 0) n x V = zqs r t σ.2.1 (fun k => E k 0) h 0 (fun _ => (0, 0)) → zW zm_209 38 [some (.ref 75), some (.int (Int32.ofNat t)), some (.int (Int32.ofNat r)), some (.int (Int32.ofNat x)), none, none] [] p (zh K (code, rf, rs, false, pr, pn, J) (m, pa, pb, pc, vf, vs, B) w) Q := by
    intro n
    induction n with
    | zero =>
      intro x V rf rs pa pb pc vf vs hx hV eo
      refine b209_38 ?_
      rw [show m 3205 = Int32.ofNat h from hb.1.2.1, zN_leI (by omega) (by omega)]
      exact ⟨fun _ => H1 V eo.symm rf rs pa pb pc vf vs hV, fun h => absurd (by omega) h⟩
    | succ n ih =>
      intro x V rf rs pa pb pc vf vs hx hV eo
      have e1 := hE x 0 (by omega) (by omega)
      have e2 := hb.2.2.1 x x (by omega) (by omega)
      rw [zqs] at eo
      refine b209_38 ?_
      rw [show m 3205 = Int32.ofNat h from hb.1.2.1, zN_leI (by omega) (by omega), e1.1, e1.2, show m (3208 + 8 * x + 2 * x) = _ from e2.1, show m (3208 + 8 * x + 2 * x + 1) = _ from e2.2]
      refine ⟨fun h => absurd h (by omega), fun _ => ⟨by omega, by omega, fun hlt => ⟨fun h => (by omega), fun _ => ⟨by omega, by omega, by omega, by omega, ?_⟩⟩, fun hge => ⟨by omega, by omega, fun hz => ⟨fun _ => ?_, fun h => (by omega)⟩, fun hz => ?_⟩⟩⟩
      · rw [if_pos hlt] at eo
        have o1 := hok x 0
        have o2 := hw.2.1.1 x x
        have nz := hdg x hlt
        obtain ⟨v, ev⟩ := zrem_some hr o1 o2 nz
        refine s204 hr o1 o2 nz (fun pa' pb' pc' => b209_141 ?_)
        rw [show zrem r ((E x 0).1, (E x 0).2) ((σ.2.1 x x).1, (σ.2.1 x x).2) = some v from ev]
        refine ⟨fun hz => ⟨by omega, by omega, by omega, by omega, ?_⟩, fun hz => ?_⟩
        · have hv0 : v = (0, 0) := (zzr_t (a := v)).mp hz
          rw [if_pos (show zrem r (E x 0) (σ.2.1 x x) = some (0, 0) by rw [ev, hv0])] at eo
          rw [e1.1, e1.2, show m (3208 + 8 * x + 2 * x) = _ from e2.1, show m (3208 + 8 * x + 2 * x + 1) = _ from e2.2]
          refine s191 hr o1 o2 nz (fun pa2 pb2 pc2 => b209_194 ⟨by omega, ?_⟩)
          refine ih (x + 1) _ _ _ _ _ _ _ _ (by omega) ?_ eo
          exact zVB_u (k := x) (q := fun _ => some (zquo r (E x 0) (σ.2.1 x x))) (p := some (zquo r (E x 0) (σ.2.1 x x))) hV (by omega) (fun u eu => by cases eu; exact zok_quo hr o1 o2 nz) (fun _ _ => rfl) hr
        · have hv0 : v ≠ (0, 0) := (zzr_f (a := v)).mp hz
          rw [if_neg (show ¬ zrem r (E x 0) (σ.2.1 x x) = some (0, 0) by rw [ev]; exact fun h => hv0 (Option.some.inj h))] at eo
          exact H2 eo.symm _ _ _ _ _ _ _
      · rw [if_neg (by omega), if_pos ((zzr_t (a := E x 0)).mp hz)] at eo
        exact ih (x + 1) V rf rs pa pb pc vf vs (by omega) hV eo
      · rw [if_neg (by omega), if_neg ((zzr_f (a := E x 0)).mp hz)] at eo
        exact H2 eo.symm _ _ _ _ _ _ _
  have l1 : ∀ (n x : Nat) (vf vs : Nat → Int32), x + n = 4 → (∀ k, k < x → vf k = 0 ∧ vs k = 0) → zW zm_209 11 [some (.ref 75), some (.int (Int32.ofNat t)), some (.int (Int32.ofNat r)), some (.int (Int32.ofNat x)), none, none] [] p (zh K (code, rf, rs, false, pr, pn, J) (m, pa, pb, pc, vf, vs, B) w) Q := by
    intro n
    induction n with
    | zero =>
      intro x vf vs hx hz
      refine b209_11 ⟨by omega, fun _ => l2 h 0 (fun _ => (0, 0)) rf rs pa pb pc vf vs (by omega) ⟨fun k hk => ?_, rfl, fun k hk => ?_⟩ rfl, fun h => (by omega)⟩
      · rw [(hz k (by omega)).1, (hz k (by omega)).2]; exact zok_0 hr
      · rw [(hz k (by omega)).1, (hz k (by omega)).2]
    | succ n ih =>
      intro x vf vs hx hz
      refine b209_11 ⟨by omega, fun h => (by omega), fun _ => ⟨by omega, ih (x + 1) _ _ (by omega) (fun k hk => ?_)⟩⟩
      by_cases hkx : k = x
      · subst hkx; rw [va_up_self, va_up_self]; exact ⟨rfl, rfl⟩
      · rw [va_up_ne _ _ hkx, va_up_ne _ _ hkx]; exact hz k (by omega)
  refine b209 ?_
  rw [show m 3204 = Int32.ofNat r from hb.1.1]
  exact l1 4 0 vf vs (by omega) (fun k hk => absurd hk (Nat.not_lt_zero k))
