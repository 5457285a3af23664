/-! the reference's blocks: logBegins, begins, copySlot, step, rebuilds, works, ends -/
def zZ : zMe := fun _ _ => (0, 0)
theorem l146 {K : zKt} {code rf rs pr pn : Int32} {bad : Bool} {J : zJt} {pa pb pc vf vs : Nat → Int32} {B : zBt} {w : Nat → Int64} {p : Nat × Nat} {Q : zR → zH → Prop} {β : Nat} {m0 : Nat → Int32} (hB : β + 1068 ≤ 5340) (H : ∀ m', (∀ k, (k < β + 36 ∨ β + 68 ≤ k) → m' k = m0 k) → (∀ j, j < 32 → m' (β + 36 + j) = m0 (β + 4 + j)) → Q (.inl none) (zh K (code, rf, rs, bad, pr, pn, J) (m', pa, pb, pc, vf, vs, B) w)) :
    ∀ (n x : Nat) (m : Nat → Int32), x + n = 32 → (∀ k, (k < β + 36 ∨ β + 36 + x ≤ k) → m k = m0 k) → (∀ j, j < x → m (β + 36 + j) = m0 (β + 4 + j)) → zW zm_146 11 [some (.ref 75), some (.int (Int32.ofNat β)), some (.int (Int32.ofNat x))] [] p (zh K (code, rf, rs, bad, pr, pn, J) (m, pa, pb, pc, vf, vs, B) w) Q := by
  intro n
  induction n with
  | zero =>
    intro x m hx f1 f2
    have : x = 32 := by omega
    subst this
    exact b146_11 ⟨by omega, fun _ => H m (fun k hk => f1 k (by omega)) f2, fun h => by omega⟩
  | succ n ih =>
    intro x m hx f1 f2
    refine b146_11 ⟨by omega, fun h => by omega, fun h => ⟨by omega, by omega, ih (x + 1) _ (by omega) (fun k hk => ?_) (fun j hj => ?_)⟩⟩
    · rw [va_up_ne _ _ (by omega)]; exact f1 k (by omega)
    · by_cases hjx : j = x
      · subst hjx; rw [va_up_self]; exact f1 _ (by omega)
      · rw [va_up_ne _ _ (by omega)]; exact f2 j (by omega)
theorem s146 {K : zKt} {code rf rs pr pn : Int32} {bad : Bool} {J : zJt} {m pa pb pc vf vs : Nat → Int32} {B : zBt} {w : Nat → Int64} {p : Nat × Nat} {Q : zR → zH → Prop} {β r h d : Nat} {E : zMe} (hB : β + 1068 ≤ 5340) (hh : zRh m β r h d) (hm : zRE m (β + 4) E) (H : ∀ m', zfr β m m' → (∀ g, zRb m' β r h d E (0, E, g)) → Q (.inl none) (zh K (code, rf, rs, bad, pr, pn, J) (m', pa, pb, pc, vf, vs, B) w)) : zT zm_146 [.ref 75, .int (Int32.ofNat β)] p (zh K (code, rf, rs, bad, pr, pn, J) (m, pa, pb, pc, vf, vs, B) w) Q := by
  refine b146 ⟨by omega, l146 (m0 := va_up m (β + 3) 0) hB (fun m' f1 f2 => H m' (fun k hk => ?_) (fun g => ⟨?_, ?_, ?_, ?_, ?_⟩)) 32 0 _ rfl (fun k _ => rfl) (fun j hj => by omega)⟩
  · rw [f1 k (by omega), va_up_ne _ _ (by omega)]
  · exact zRh_eq (fun k _ _ => by rw [f1 k (by omega), va_up_ne _ _ (by omega)]) hh
  · rw [f1 _ (by omega), va_up_self]; rfl
  · exact zRE_eq (fun k _ _ => by rw [f1 k (by omega), va_up_ne _ _ (by omega)]) hm
  · intro a c ha hc
    have e := hm a c ha hc
    rw [show β + 36 + 8 * a + 2 * c = β + 36 + (8 * a + 2 * c) by omega, show β + 36 + (8 * a + 2 * c) + 1 = β + 36 + (8 * a + 2 * c + 1) by omega, f2 _ (by omega), f2 _ (by omega), va_up_ne _ _ (by omega), va_up_ne _ _ (by omega), show β + 4 + (8 * a + 2 * c) = β + 4 + 8 * a + 2 * c by omega, show β + 4 + (8 * a + 2 * c + 1) = β + 4 + 8 * a + 2 * c + 1 by omega]
    exact e
  · intro k hk
    exact absurd hk (Nat.not_lt_zero k)
theorem l145 {K : zKt} {code rf rs pr pn : Int32} {bad : Bool} {J : zJt} {pa pb pc vf vs : Nat → Int32} {B : zBt} {w : Nat → Int64} {p : Nat × Nat} {Q : zR → zH → Prop} {β r h d : Nat} {m0 : Nat → Int32} (hB : β + 1068 ≤ 5340) (hh : zRh m0 β r h d) (H : ∀ m', zfr β m0 m' → (∀ g, zRb m' β r h d zZ (0, zZ, g)) → Q (.inl none) (zh K (code, rf, rs, bad, pr, pn, J) (m', pa, pb, pc, vf, vs, B) w)) :
    ∀ (n x : Nat) (m : Nat → Int32), x + n = 32 → (∀ k, (k < β + 4 ∨ β + 36 ≤ k) → m k = m0 k) → (∀ j, j < x → m (β + 4 + j) = 0) → zW zm_145 31 [some (.ref 75), some (.int (Int32.ofNat β)), none, none, none, some (.int (Int32.ofNat x))] [] p (zh K (code, rf, rs, bad, pr, pn, J) (m, pa, pb, pc, vf, vs, B) w) Q := by
  intro n
  induction n with
  | zero =>
    intro x m hx f1 f2
    have : x = 32 := by omega
    subst this
    refine b145_31 ⟨by omega, fun _ => s146 (E := zZ) hB (zRh_eq (fun k _ _ => f1 k (by omega)) hh) (fun a c ha hc => ?_) (fun m' g1 g2 => b145_61 (H m' (fun k hk => by rw [g1 k hk, f1 k (by omega)]) g2)), fun h => by omega⟩
    rw [show β + 4 + 8 * a + 2 * c = β + 4 + (8 * a + 2 * c) by omega, show β + 4 + (8 * a + 2 * c) + 1 = β + 4 + (8 * a + 2 * c + 1) by omega, f2 _ (by omega), f2 _ (by omega)]
    exact ⟨rfl, rfl⟩
  | succ n ih =>
    intro x m hx f1 f2
    refine b145_31 ⟨by omega, fun h => by omega, fun h => ⟨by omega, ih (x + 1) _ (by omega) (fun k hk => ?_) (fun j hj => ?_)⟩⟩
    · rw [va_up_ne _ _ (by omega)]; exact f1 k (by omega)
    · by_cases hjx : j = x
      · subst hjx; rw [va_up_self]
      · rw [va_up_ne _ _ (by omega)]; exact f2 j (by omega)
theorem s145 {K : zKt} {code rf rs pr pn : Int32} {bad : Bool} {J : zJt} {m pa pb pc vf vs : Nat → Int32} {B : zBt} {w : Nat → Int64} {p : Nat × Nat} {Q : zR → zH → Prop} {β r h d : Nat} (hB : β + 1068 ≤ 5340) (H : ∀ m', zfr β m m' → (∀ g, zRb m' β r h d zZ (0, zZ, g)) → Q (.inl none) (zh K (code, rf, rs, bad, pr, pn, J) (m', pa, pb, pc, vf, vs, B) w)) : zT zm_145 [.ref 75, .int (Int32.ofNat β), .int (Int32.ofNat r), .int (Int32.ofNat h), .int (Int32.ofNat d)] p (zh K (code, rf, rs, bad, pr, pn, J) (m, pa, pb, pc, vf, vs, B) w) Q := by
  refine b145 ⟨by omega, by omega, by omega, l145 hB ⟨?_, ?_, ?_⟩ (fun m' f1 f2 => H m' (fun k hk => ?_) f2) 32 0 _ rfl (fun k _ => rfl) (fun j hj => by omega)⟩
  · rw [va_up_ne _ _ (by omega), va_up_ne _ _ (by omega)]; exact va_up_self _ _ _
  · rw [va_up_ne _ _ (by omega), va_up_self]
  · rw [va_up_self]
  · rw [f1 k hk, va_up_ne _ _ (by omega), va_up_ne _ _ (by omega), va_up_ne _ _ (by omega)]
theorem l154 {K : zKt} {code rf rs pr pn : Int32} {bad : Bool} {J : zJt} {pa pb pc vf vs : Nat → Int32} {B : zBt} {w : Nat → Int64} {p : Nat × Nat} {Q : zR → zH → Prop} {β C : Nat} {m0 : Nat → Int32} (hB : β + 1068 ≤ 5340) (hC : C + 1068 ≤ 5340) (hd : β = C ∨ β + 1068 ≤ C ∨ C + 1068 ≤ β) (H : ∀ m', zfr C m0 m' → (∀ j, j < 1068 → m' (C + j) = m0 (β + j)) → Q (.inl none) (zh K (code, rf, rs, bad, pr, pn, J) (m', pa, pb, pc, vf, vs, B) w)) :
    ∀ (n x : Nat) (m : Nat → Int32), x + n = 1068 → (∀ k, (k < C ∨ C + x ≤ k) → m k = m0 k) → (∀ j, j < x → m (C + j) = m0 (β + j)) → zW zm_154 2 [some (.ref 75), some (.int (Int32.ofNat β)), some (.int (Int32.ofNat C)), some (.int (Int32.ofNat x))] [] p (zh K (code, rf, rs, bad, pr, pn, J) (m, pa, pb, pc, vf, vs, B) w) Q := by
  intro n
  induction n with
  | zero =>
    intro x m hx f1 f2
    have : x = 1068 := by omega
    subst this
    exact b154_2 ⟨by omega, fun _ => H m f1 f2, fun h => by omega⟩
  | succ n ih =>
    intro x m hx f1 f2
    refine b154_2 ⟨by omega, fun h => by omega, fun h => ⟨by omega, by omega, ih (x + 1) _ (by omega) (fun k hk => ?_) (fun j hj => ?_)⟩⟩
    · rw [va_up_ne _ _ (by omega)]; exact f1 k (by omega)
    · by_cases hjx : j = x
      · subst hjx; rw [va_up_self]; exact f1 _ (by omega)
      · rw [va_up_ne _ _ (by omega)]; exact f2 j (by omega)
theorem s154 {K : zKt} {code rf rs pr pn : Int32} {bad : Bool} {J : zJt} {m pa pb pc vf vs : Nat → Int32} {B : zBt} {w : Nat → Int64} {p : Nat × Nat} {Q : zR → zH → Prop} {β C : Nat} (hB : β + 1068 ≤ 5340) (hC : C + 1068 ≤ 5340) (hd : β = C ∨ β + 1068 ≤ C ∨ C + 1068 ≤ β) (H : ∀ m', zfr C m m' → (∀ j, j < 1068 → m' (C + j) = m (β + j)) → Q (.inl none) (zh K (code, rf, rs, bad, pr, pn, J) (m', pa, pb, pc, vf, vs, B) w)) :
    zT zm_154 [.ref 75, .int (Int32.ofNat β), .int (Int32.ofNat C)] p (zh K (code, rf, rs, bad, pr, pn, J) (m, pa, pb, pc, vf, vs, B) w) Q := b154 (l154 hB hC hd H 1068 0 m rfl (fun k _ => rfl) (fun j hj => by omega))
/-- a copy of a block is such a block -/
theorem zRb_cp {m m' : Nat → Int32} {β C r h d : Nat} {O : zMe} {σ : zFo} (e : ∀ j, j < 1068 → m' (C + j) = m (β + j)) (h2 : σ.1 ≤ 200) (hb : zRb m β r h d O σ) : zRb m' C r h d O σ := by
  obtain ⟨⟨a1, a2, a3⟩, b2, b3, b4, b5⟩ := hb
  have g : ∀ {k q : Nat}, q < 1068 → k = C + q → m' k = m (β + q) := fun h1 h2 => by rw [h2]; exact e _ h1
  refine ⟨⟨?_, ?_, ?_⟩, ?_, fun a c ha hc => ?_, fun a c ha hc => ?_, fun k hk => ?_⟩
  · exact (e 0 (by omega)).trans a1
  · rw [g (q := 1) (by omega) rfl]; exact a2
  · rw [g (q := 2) (by omega) rfl]; exact a3
  · rw [g (q := 3) (by omega) rfl]; exact b2
  · rw [g (q := 4 + 8 * a + 2 * c) (by omega) (by omega), g (q := 4 + 8 * a + 2 * c + 1) (by omega) (by omega), show β + (4 + 8 * a + 2 * c) = β + 4 + 8 * a + 2 * c by omega, show β + (4 + 8 * a + 2 * c + 1) = β + 4 + 8 * a + 2 * c + 1 by omega]
    exact b3 a c ha hc
  · rw [g (q := 36 + 8 * a + 2 * c) (by omega) (by omega), g (q := 36 + 8 * a + 2 * c + 1) (by omega) (by omega), show β + (36 + 8 * a + 2 * c) = β + 36 + 8 * a + 2 * c by omega, show β + (36 + 8 * a + 2 * c + 1) = β + 36 + 8 * a + 2 * c + 1 by omega]
    exact b4 a c ha hc
  · unfold zRg
    rw [g (q := 68 + 5 * k) (by omega) (by omega), g (q := 68 + 5 * k + 1) (by omega) (by omega), g (q := 68 + 5 * k + 2) (by omega) (by omega), g (q := 68 + 5 * k + 3) (by omega) (by omega), g (q := 68 + 5 * k + 4) (by omega) (by omega),
      show β + (68 + 5 * k) = β + 68 + 5 * k by omega, show β + (68 + 5 * k + 1) = β + 68 + 5 * k + 1 by omega, show β + (68 + 5 * k + 2) = β + 68 + 5 * k + 2 by omega, show β + (68 + 5 * k + 3) = β + 68 + 5 * k + 3 by omega, show β + (68 + 5 * k + 4) = β + 68 + 5 * k + 4 by omega]
    exact b5 k hk
theorem zlog_p {m m'' : Nat → Int32} {β c : Nat} {a b e f g : Int32} (h3 : m (β + 3) = Int32.ofNat c)
    (h : m'' = va_up (va_up (va_up (va_up (va_up (va_up m (β + 68 + 5 * c) a) (β + 68 + 5 * c + 1) b) (β + 68 + 5 * c + 2) e) (β + 68 + 5 * c + 3) f) (β + 68 + 5 * c + 4) g) (β + 3) ((va_up (va_up (va_up (va_up (va_up m (β + 68 + 5 * c) a) (β + 68 + 5 * c + 1) b) (β + 68 + 5 * c + 2) e) (β + 68 + 5 * c + 3) f) (β + 68 + 5 * c + 4) g) (β + 3) + (1 : Int32))) :
    (∀ k, k ≠ β + 3 → (k < β + 68 + 5 * c ∨ β + 68 + 5 * c + 5 ≤ k) → m'' k = m k) ∧ m'' (β + 3) = Int32.ofNat (c + 1) ∧ m'' (β + 68 + 5 * c) = a ∧ m'' (β + 68 + 5 * c + 1) = b ∧ m'' (β + 68 + 5 * c + 2) = e ∧ m'' (β + 68 + 5 * c + 3) = f ∧ m'' (β + 68 + 5 * c + 4) = g := by
  subst h
  refine ⟨fun k h1 h2 => ?_, ?_, ?_, ?_, ?_, ?_, ?_⟩
  · rw [va_up_ne _ _ h1, va_up_ne _ _ (by omega), va_up_ne _ _ (by omega), va_up_ne _ _ (by omega), va_up_ne _ _ (by omega), va_up_ne _ _ (by omega)]
  · rw [va_up_self, va_up_ne _ _ (by omega), va_up_ne _ _ (by omega), va_up_ne _ _ (by omega), va_up_ne _ _ (by omega), va_up_ne _ _ (by omega), h3]
    exact zN_a rfl rfl
  · rw [va_up_ne _ _ (by omega), va_up_ne _ _ (by omega), va_up_ne _ _ (by omega), va_up_ne _ _ (by omega), va_up_ne _ _ (by omega), va_up_self]
  · rw [va_up_ne _ _ (by omega), va_up_ne _ _ (by omega), va_up_ne _ _ (by omega), va_up_ne _ _ (by omega), va_up_self]
  · rw [va_up_ne _ _ (by omega), va_up_ne _ _ (by omega), va_up_ne _ _ (by omega), va_up_self]
  · rw [va_up_ne _ _ (by omega), va_up_ne _ _ (by omega), va_up_self]
  · rw [va_up_ne _ _ (by omega), va_up_self]
/-- step -/
theorem s174 {K : zKt} {code rf rs pr pn : Int32} {bad : Bool} {J : zJt} {m pa pb pc vf vs : Nat → Int32} {B : zBt} {w : Nat → Int64} {p : Nat × Nat} {Q : zR → zH → Prop} {β r h d : Nat} {O : zMe} {σ : zFo} {s : zSt} {jj : Int32} (hsh : zsh r h d) (hB : β + 1068 ≤ 5340) (hb : zRb m β r h d O σ) (hw : zwf r h d O σ) (hs : zsv r h d s) (hj : s.1 % 3 ≠ 2 → jj = Int32.ofNat s.2.2.1)
    (H1 : ∀ τ, bad = false → zdo r h d s σ = some τ → ∀ rf' rs' pa' pb' pc' m', zfr β m m' → zRb m' β r h d O τ → Q (.inl none) (zh K (code, rf', rs', false, pr, pn, J) (m', pa', pb', pc', vf, vs, B) w))
    (H2 : (bad = true ∨ zdo r h d s σ = none) → ∀ rf' rs' pa' pb' pc' m', zfr β m m' → zRh m' β r h d → Q (.inl none) (zh K (code, rf', rs', true, pr, pn, J) (m', pa', pb', pc', vf, vs, B) w)) :
    zT zm_174 [.ref 75, .int (Int32.ofNat β), .int (Int32.ofNat s.1), .int (Int32.ofNat s.2.1), .int jj, .int s.2.2.2.1, .int s.2.2.2.2] p (zh K (code, rf, rs, bad, pr, pn, J) (m, pa, pb, pc, vf, vs, B) w) Q := by
  obtain ⟨b1, b2, b3, b4, b5⟩ := hb
  cases bad with
  | true => exact b174 ⟨fun _ => H2 (Or.inl rfl) rf rs pa pb pc m zfr_r b1, fun h => (by cases h)⟩
  | false =>
    have hc := hw.1
    by_cases h200 : σ.1 = 200
    · exact b174 ⟨fun h => (by cases h), fun _ => ⟨by omega, fun h => absurd (by rw [b2, h200]; rfl) h, fun _ => H2 (Or.inr (by unfold zdo; rw [if_pos h200])) rf rs pa pb pc m zfr_r b1⟩⟩
    · refine b174 ⟨fun h => (by cases h), fun _ => ⟨by omega, fun _ => ?_, fun h => ?_⟩⟩
      · refine s175 hsh hB b1 b3 hw.2.1 hs hj (fun rf' rs' pa' pb' pc' m' bad' f1 f2 f3 => ?_)
        have m3 : m' (β + 3) = Int32.ofNat σ.1 := by rw [f1 _ (by omega)]; exact b2
        have p0 : Int32.ofNat β + (68 : Int32) + (5 : Int32) * m' (β + 3) = Int32.ofNat (β + 68 + 5 * σ.1) := zN_a (zN_a rfl rfl) (zN_m rfl m3)
        have fin : ∀ m'', m'' = va_up (va_up (va_up (va_up (va_up (va_up m' (β + 68 + 5 * σ.1) (Int32.ofNat s.1)) (β + 68 + 5 * σ.1 + 1) (Int32.ofNat s.2.1)) (β + 68 + 5 * σ.1 + 2) (zsj s)) (β + 68 + 5 * σ.1 + 3) s.2.2.2.1) (β + 68 + 5 * σ.1 + 4) s.2.2.2.2) (β + 3) ((va_up (va_up (va_up (va_up (va_up m' (β + 68 + 5 * σ.1) (Int32.ofNat s.1)) (β + 68 + 5 * σ.1 + 1) (Int32.ofNat s.2.1)) (β + 68 + 5 * σ.1 + 2) (zsj s)) (β + 68 + 5 * σ.1 + 3) s.2.2.2.1) (β + 68 + 5 * σ.1 + 4) s.2.2.2.2) (β + 3) + (1 : Int32)) →
            Q (.inl none) (zh K (code, rf', rs', bad', pr, pn, J) (m'', pa', pb', pc', vf, vs, B) w) := by
          intro m'' e
          obtain ⟨q1, q2, q3, q4, q5, q6, q7⟩ := zlog_p m3 e
          have hf : zfr β m m'' := fun k hk => by rw [q1 k (by omega) (by omega), f1 k (by omega)]
          have hh : zRh m'' β r h d := zRh_eq (fun k _ _ => by rw [q1 k (by omega) (by omega), f1 k (by omega)]) b1
          cases bad' with
          | true =>
            refine H2 (Or.inr ?_) _ _ _ _ _ _ hf hh
            rcases f3 rfl with h | h
            · cases h
            · unfold zdo; rw [if_neg h200, h]
          | false =>
            obtain ⟨_, E', e1, e2⟩ := f2 rfl
            refine H1 (σ.1 + 1, E', va_up σ.2.2 σ.1 s) rfl (by unfold zdo; rw [if_neg h200, e1]) _ _ _ _ _ _ hf ⟨hh, q2, zRE_eq (fun k _ _ => q1 k (by omega) (by omega)) e2, zRE_eq (fun k _ _ => by rw [q1 k (by omega) (by omega), f1 k (by omega)]) b4, fun k hk => ?_⟩
            show zRg m'' (β + 68 + 5 * k) (va_up σ.2.2 σ.1 s k)
            by_cases hk2 : k = σ.1
            · subst hk2; rw [va_up_self]; exact ⟨q3, q4, q5, q6, q7⟩
            · have hk3 : k < σ.1 := by have : k < σ.1 + 1 := hk; omega
              rw [va_up_ne _ _ hk2]
              exact zRg_eq (fun j _ _ => by rw [q1 j (by omega) (by omega), f1 j (by omega)]) (b5 k hk3)
        have s6 := hs.1
        refine b174_51 ⟨by omega, β + 68 + 5 * σ.1, p0, by omega, β + 68 + 5 * σ.1 + 1, zN_a p0 rfl, by omega, by omega, by omega, fun n2 => ⟨β + 68 + 5 * σ.1 + 2, zN_a p0 rfl, by omega, fun n0 => ⟨β + 68 + 5 * σ.1 + 3, zN_a p0 rfl, by omega, fun _ => ⟨β + 68 + 5 * σ.1 + 4, zN_a p0 rfl, by omega, ?_⟩, fun h => absurd h n0⟩, fun z => ⟨β + 68 + 5 * σ.1 + 3, zN_a p0 rfl, by omega, fun h => absurd z h, fun _ => ⟨β + 68 + 5 * σ.1 + 4, zN_a p0 rfl, by omega, ?_⟩⟩⟩,
          fun e2 => ⟨β + 68 + 5 * σ.1 + 2, zN_a p0 rfl, by omega, fun n0 => ⟨β + 68 + 5 * σ.1 + 3, zN_a p0 rfl, by omega, fun _ => ⟨β + 68 + 5 * σ.1 + 4, zN_a p0 rfl, by omega, ?_⟩, fun h => absurd h n0⟩, fun z => by omega⟩⟩
        · refine fin _ ?_
          rw [show zsj s = jj by unfold zsj; rw [if_neg n2, hj n2]]
        · refine fin _ ?_
          rw [show zsj s = jj by unfold zsj; rw [if_neg n2, hj n2], hs.2.2.2.2.2 z]
        · refine fin _ ?_
          rw [show zsj s = -1 by unfold zsj; rw [if_pos e2]]
      · rw [b2] at h
        exact absurd (zN_inj (b := 200) (by omega) (by decide) h) h200
theorem zsj_n {s : zSt} (h : s.1 % 3 ≠ 2) : zsj s = Int32.ofNat s.2.2.1 := by unfold zsj; rw [if_neg h]
theorem l181 {K : zKt} {code pr pn : Int32} {J : zJt} {vf vs : Nat → Int32} {B : zBt} {w : Nat → Int64} {p : Nat × Nat} {Q : zR → zH → Prop} {β r h d n : Nat} {O F : zMe} {g : Nat → zSt} {m0 : Nat → Int32} (hsh : zsh r h d) (hB : β + 1068 ≤ 5340) (hh : zRh m0 β r h d) (hO : zEw r h d O) (hg : ∀ k, k < n → zsv r h d (g k)) (hl : ∀ k, k < n → zRg m0 (β + 68 + 5 * k) (g k)) (hn : n ≤ 200) (hF : zrp r h d O g n = some F)
    (H : ∀ rf' rs' pa' pb' pc' m', (∀ k, (k < β + 4 ∨ β + 36 ≤ k) → m' k = m0 k) → zRE m' (β + 4) F → Q (.inl none) (zh K (code, rf', rs', false, pr, pn, J) (m', pa', pb', pc', vf, vs, B) w)) :
    ∀ (y x : Nat) (rf rs : Int32) (pa pb pc m : Nat → Int32) (E : zMe), x + y = n → (∀ k, (k < β + 4 ∨ β + 36 ≤ k) → m k = m0 k) → zrp r h d O g x = some E → zRE m (β + 4) E → zW zm_181 37 [some (.ref 75), some (.int (Int32.ofNat β)), some (.int (Int32.ofNat n)), some (.int (Int32.ofNat x)), none] [] p (zh K (code, rf, rs, false, pr, pn, J) (m, pa, pb, pc, vf, vs, B) w) Q := by
  intro y
  induction y with
  | zero =>
    intro x rf rs pa pb pc m E hx f1 f2 f3
    have : x = n := by omega
    subst this
    rw [hF] at f2
    cases f2
    exact b181_37 ⟨by omega, by omega, fun _ => H rf rs pa pb pc m f1 f3, fun h => by omega⟩
  | succ y ih =>
    intro x rf rs pa pb pc m E hx f1 f2 f3
    obtain ⟨g1, g2, g3, g4, g5⟩ := zRg_eq (m' := m) (fun k _ _ => f1 k (by omega)) (hl x (by omega))
    refine b181_37 ⟨by omega, by omega, fun h => by omega, fun _ => ⟨by omega, by omega, by omega, by omega, by omega, ?_⟩⟩
    rw [g1, g2, g3, g4, g5]
    refine s175 hsh hB (zRh_eq (fun k _ _ => f1 k (by omega)) hh) f3 (zrp_w hsh.1 hO (fun k hk => hg k (by omega)) f2) (hg x (by omega)) (fun h => zsj_n h) (fun rf' rs' pa' pb' pc' m' bad' q1 q2 q3 => ?_)
    obtain ⟨G, hG⟩ := zrp_pre hF (x + 1) (by omega)
    have hG2 : zap r h d E (g x) = some G := by
      have := hG
      simp only [zrp, f2] at this
      exact this
    cases bad' with
    | true =>
      rcases q3 rfl with h | h
      · cases h
      · rw [hG2] at h; cases h
    | false =>
      obtain ⟨_, E', e1, e2⟩ := q2 rfl
      rw [hG2] at e1
      cases e1
      exact b181_100 (ih (x + 1) rf' rs' pa' pb' pc' m' G (by omega) (fun k hk => by rw [q1 k hk, f1 k hk]) hG e2)
theorem m181 {K : zKt} {code rf rs pr pn : Int32} {bad : Bool} {J : zJt} {pa pb pc vf vs : Nat → Int32} {B : zBt} {w : Nat → Int64} {p : Nat × Nat} {Q : zR → zH → Prop} {β n : Nat} {O : zMe} {m0 : Nat → Int32} (hB : β + 1068 ≤ 5340) (hO : zRE m0 (β + 36) O)
    (H : ∀ m', (∀ k, (k < β + 4 ∨ β + 36 ≤ k) → m' k = m0 k) → zRE m' (β + 4) O → zW zm_181 37 [some (.ref 75), some (.int (Int32.ofNat β)), some (.int (Int32.ofNat n)), some (.int (Int32.ofNat 0)), none] [] p (zh K (code, rf, rs, bad, pr, pn, J) (m', pa, pb, pc, vf, vs, B) w) Q) :
    ∀ (y x : Nat) (m : Nat → Int32), x + y = 32 → (∀ k, (k < β + 4 ∨ β + 4 + x ≤ k) → m k = m0 k) → (∀ j, j < x → m (β + 4 + j) = m0 (β + 36 + j)) → zW zm_181 2 [some (.ref 75), some (.int (Int32.ofNat β)), some (.int (Int32.ofNat n)), some (.int (Int32.ofNat x)), none] [] p (zh K (code, rf, rs, bad, pr, pn, J) (m, pa, pb, pc, vf, vs, B) w) Q := by
  intro y
  induction y with
  | zero =>
    intro x m hx f1 f2
    have : x = 32 := by omega
    subst this
    refine b181_2 ⟨by omega, fun _ => H m (fun k hk => f1 k (by omega)) (fun a c ha hc => ?_), fun h => by omega⟩
    have e := hO a c ha hc
    rw [show β + 4 + 8 * a + 2 * c = β + 4 + (8 * a + 2 * c) by omega, show β + 4 + (8 * a + 2 * c) + 1 = β + 4 + (8 * a + 2 * c + 1) by omega, f2 _ (by omega), f2 _ (by omega), show β + 36 + (8 * a + 2 * c) = β + 36 + 8 * a + 2 * c by omega, show β + 36 + (8 * a + 2 * c + 1) = β + 36 + 8 * a + 2 * c + 1 by omega]
    exact e
  | succ y ih =>
    intro x m hx f1 f2
    refine b181_2 ⟨by omega, fun h => by omega, fun h => ⟨by omega, by omega, ih (x + 1) _ (by omega) (fun k hk => ?_) (fun j hj => ?_)⟩⟩
    · rw [va_up_ne _ _ (by omega)]; exact f1 k (by omega)
    · by_cases hjx : j = x
      · subst hjx; rw [va_up_self]; exact f1 _ (by omega)
      · rw [va_up_ne _ _ (by omega)]; exact f2 j (by omega)
/-- rebuilds -/
theorem s181 {K : zKt} {code rf rs pr pn : Int32} {J : zJt} {m pa pb pc vf vs : Nat → Int32} {B : zBt} {w : Nat → Int64} {p : Nat × Nat} {Q : zR → zH → Prop} {β r h d n : Nat} {O F : zMe} {g : Nat → zSt} (hsh : zsh r h d) (hB : β + 1068 ≤ 5340) (hh : zRh m β r h d) (hm : zRE m (β + 36) O) (hO : zEw r h d O) (hg : ∀ k, k < n → zsv r h d (g k)) (hl : ∀ k, k < n → zRg m (β + 68 + 5 * k) (g k)) (hn : n ≤ 200) (hF : zrp r h d O g n = some F)
    (H : ∀ rf' rs' pa' pb' pc' m', (∀ k, (k < β + 4 ∨ β + 36 ≤ k) → m' k = m k) → zRE m' (β + 4) F → Q (.inl none) (zh K (code, rf', rs', false, pr, pn, J) (m', pa', pb', pc', vf, vs, B) w)) :
    zT zm_181 [.ref 75, .int (Int32.ofNat β), .int (Int32.ofNat n)] p (zh K (code, rf, rs, false, pr, pn, J) (m, pa, pb, pc, vf, vs, B) w) Q := by
  refine b181 (m181 (bad := false) hB hm (fun m' f1 f2 => ?_) 32 0 m rfl (fun k _ => rfl) (fun j hj => by omega))
  exact l181 (m0 := m) hsh hB hh hO hg hl hn hF H n 0 rf rs pa pb pc m' O (by omega) f1 rfl f2
theorem z1068 {a : Nat} : (1068 : Int32) * Int32.ofNat a = Int32.ofNat (1068 * a) := zN_m rfl rfl
/-- works -/
theorem s173 {K : zKt} {code rf rs pr pn : Int32} {bad : Bool} {J : zJt} {m pa pb pc vf vs : Nat → Int32} {B : zBt} {w : Nat → Int64} {p : Nat × Nat} {Q : zR → zH → Prop} {a : Nat} (ha : a < 3) (H : ∀ m', zfr 3204 m m' → (∀ j, j < 1068 → m' (3204 + j) = m (1068 * a + j)) → Q (.inl none) (zh K (code, rf, rs, false, pr, pn, J) (m', pa, pb, pc, vf, vs, B) w)) : zT zm_173 [.ref 75, .int (Int32.ofNat a)] p (zh K (code, rf, rs, bad, pr, pn, J) (m, pa, pb, pc, vf, vs, B) w) Q := by
  refine b173 ?_
  rw [z1068]
  exact s154 (β := 1068 * a) (C := 3204) (by omega) (by omega) (by omega) (fun m' f1 f2 => b173_17 (H m' f1 f2))
/-- ends -/
theorem s162 {K : zKt} {code rf rs pr pn : Int32} {bad : Bool} {J : zJt} {m pa pb pc vf vs : Nat → Int32} {B : zBt} {w : Nat → Int64} {p : Nat × Nat} {Q : zR → zH → Prop} {a : Nat} {ans fl : Int32} (ha : a < 3) (H1 : bad = false → ∀ m', zfr (1068 * a) m m' → (∀ j, j < 1068 → m' (1068 * a + j) = m (3204 + j)) → Q (.inl (some (.int ans))) (zh K (code, rf, rs, bad, pr, pn, J) (m', pa, pb, pc, vf, vs, B) w)) (H2 : bad = true → Q (.inl (some (.int 0))) (zh K (fl, rf, rs, bad, pr, pn, J) (m, pa, pb, pc, vf, vs, B) w)) :
    zT zm_162 [.ref 75, .int (Int32.ofNat a), .int ans, .int fl] p (zh K (code, rf, rs, bad, pr, pn, J) (m, pa, pb, pc, vf, vs, B) w) Q := by
  refine b162 ⟨fun hb => ?_, H2⟩
  rw [z1068]
  exact s154 (β := 3204) (C := 1068 * a) (by omega) (by omega) (by omega) (fun m' f1 f2 => b162_25 (H1 hb m' f1 f2))
