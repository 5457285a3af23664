/-! THE REFERENCE'S Hermite form -/
def zGB (bad : Bool) (m : Nat → Int32) (β r h d : Nat) (O : zMe) (o : Option zFo) : Prop := match o with
  | some τ => bad = false ∧ zRb m β r h d O τ ∧ zwf r h d O τ
  | none => bad = true ∧ zRh m β r h d
theorem zGB_h {bad : Bool} {m : Nat → Int32} {β r h d : Nat} {O : zMe} {o : Option zFo} (hg : zGB bad m β r h d O o) : zRh m β r h d := by
  cases o with
  | none => exact hg.2
  | some τ => exact hg.2.1.1
theorem zzr_t {a : zE2} : zzr a.1 a.2 = true ↔ a = (0, 0) := by
  unfold zzr
  rw [Bool.and_eq_true, decide_eq_true_iff, decide_eq_true_iff]
  exact ⟨fun h => Prod.ext h.1 h.2, fun h => by rw [h]; exact ⟨rfl, rfl⟩⟩
theorem zzr_f {a : zE2} : zzr a.1 a.2 = false ↔ a ≠ (0, 0) := by
  rw [← Bool.not_eq_true, zzr_t]
theorem s174g {K : zKt} {code rf rs pr pn : Int32} {bad : Bool} {J : zJt} {m pa pb pc vf vs : Nat → Int32} {B : zBt} {w : Nat → Int64} {p : Nat × Nat} {Q : zR → zH → Prop} {β r h d : Nat} {O : zMe} {o : Option zFo} {s : zSt} {jj : Int32} (hsh : zsh r h d) (hB : β + 1068 ≤ 5340) (hg : zGB bad m β r h d O o) (hs : o ≠ none → zsv r h d s) (hj : s.1 % 3 ≠ 2 → jj = Int32.ofNat s.2.2.1)
    (H : ∀ rf' rs' pa' pb' pc' m' bad', zfr β m m' → zGB bad' m' β r h d O (o.bind (zdo r h d s)) → Q (.inl none) (zh K (code, rf', rs', bad', pr, pn, J) (m', pa', pb', pc', vf, vs, B) w)) :
    zT zm_174 [.ref 75, .int (Int32.ofNat β), .int (Int32.ofNat s.1), .int (Int32.ofNat s.2.1), .int jj, .int s.2.2.2.1, .int s.2.2.2.2] p (zh K (code, rf, rs, bad, pr, pn, J) (m, pa, pb, pc, vf, vs, B) w) Q := by
  cases o with
  | none =>
    obtain ⟨rfl, hh⟩ := hg
    exact b174 ⟨fun _ => H rf rs pa pb pc m true zfr_r ⟨rfl, hh⟩, fun h => (by cases h)⟩
  | some σ =>
    obtain ⟨rfl, hb, hw⟩ := hg
    have hs := hs (Option.some_ne_none σ)
    refine s174 hsh hB hb hw hs hj (fun τ _ e rf' rs' pa' pb' pc' m' f1 f2 => H rf' rs' pa' pb' pc' m' false f1 ?_) (fun e rf' rs' pa' pb' pc' m' f1 f2 => H rf' rs' pa' pb' pc' m' true f1 ?_)
    · rw [Option.bind_some, e]; exact ⟨rfl, f2, zdo_w hsh.1 hw hs e⟩
    · rcases e with e | e
      · cases e
      · rw [Option.bind_some, e]; exact ⟨rfl, f2⟩
theorem s174b {K : zKt} {code rf rs pr pn : Int32} {J : zJt} {m pa pb pc vf vs : Nat → Int32} {B : zBt} {w : Nat → Int64} {p : Nat × Nat} {Q : zR → zH → Prop} {x y z : Nat} {j f s : Int32} (H : Q (.inl none) (zh K (code, rf, rs, true, pr, pn, J) (m, pa, pb, pc, vf, vs, B) w)) : zT zm_174 [.ref 75, .int (Int32.ofNat x), .int (Int32.ofNat y), .int (Int32.ofNat z), .int j, .int f, .int s] p (zh K (code, rf, rs, true, pr, pn, J) (m, pa, pb, pc, vf, vs, B) w) Q :=
  b174 ⟨fun _ => H, fun h => (by cases h)⟩
/-- clears -/
theorem s190 {K : zKt} {code rf rs pr pn : Int32} {bad : Bool} {J : zJt} {m pa pb pc vf vs : Nat → Int32} {B : zBt} {w : Nat → Int64} {p : Nat × Nat} {Q : zR → zH → Prop} {β r h d i t q : Nat} {c : Bool} {O : zMe} {o : Option zFo} (hsh : zsh r h d) (hB : β + 1068 ≤ 5340) (hg : zGB bad m β r h d O o) (hi : i < zll h d c) (ht : t < zll h d c) (hit : i ≠ t) (hq : q < zplc h d c) (hp : ∀ σ, o = some σ → zlg c σ.2.1 t q ≠ (0, 0))
    (H : ∀ rf' rs' pa' pb' pc' m' bad', zfr β m m' → zGB bad' m' β r h d O (o.bind (zclr r h d c i t q)) → Q (.inl none) (zh K (code, rf', rs', bad', pr, pn, J) (m', pa', pb', pc', vf, vs, B) w)) :
    zT zm_190 [.ref 75, .int (Int32.ofNat β), .int (zbi c), .int (Int32.ofNat i), .int (Int32.ofNat t), .int (Int32.ofNat q)] p (zh K (code, rf, rs, bad, pr, pn, J) (m, pa, pb, pc, vf, vs, B) w) Q := by
  have h4 := zll_le hsh c
  have h5 := zplc_le hsh c
  have bi := zln_b (β := β) (c := c) (show i < 4 by omega) (show q < 4 by omega)
  have bt := zln_b (β := β) (c := c) (show t < 4 by omega) (show q < 4 by omega)
  cases o with
  | none =>
    have hg' := hg
    obtain ⟨rfl, hh⟩ := hg'
    exact b190 ⟨fun _ => H rf rs pa pb pc m true zfr_r hg, fun h => (by cases h)⟩
  | some σ =>
    have hg' := hg
    obtain ⟨rfl, hb, hw⟩ := hg'
    have hp := hp σ rfl
    have k0 : m (β + 0) = Int32.ofNat r := hb.1.1
    have ei := zRE_l hb.2.2.1 c (show i < 4 by omega) (show q < 4 by omega)
    have et := zRE_l hb.2.2.1 c (show t < 4 by omega) (show q < 4 by omega)
    refine b190 ⟨fun h => (by cases h), fun _ => ⟨by omega, by omega, fun hz => ⟨by omega, by omega, by omega, ?_⟩, fun hz => ?_⟩⟩
    · rw [ei.1, ei.2, zzr_f] at hz
      rw [k0, ei.1, ei.2, et.1, et.2]
      have qo := zok_quo hsh.1 (zlg_ok hw.2.1 c i q) (zlg_ok hw.2.1 c t q) hp
      refine s191 hsh.1 (zlg_ok hw.2.1 c i q) (zlg_ok hw.2.1 c t q) hp (fun pa1 pb1 pc1 => ?_)
      have go : ¬ (zquo r (zlg c σ.2.1 i q) (zlg c σ.2.1 t q) = (0, 0) ∧ c = false ∧ i < t) → zT zm_195 [.ref 75, .int (Int32.ofNat r), .int (zquo r (zlg c σ.2.1 i q) (zlg c σ.2.1 t q)).1, .int (zquo r (zlg c σ.2.1 i q) (zlg c σ.2.1 t q)).2] p (zh K (code, (zquo r (zlg c σ.2.1 i q) (zlg c σ.2.1 t q)).1, (zquo r (zlg c σ.2.1 i q) (zlg c σ.2.1 t q)).2, false, pr, pn, J) (m, pa1, pb1, pc1, vf, vs, B) w) (zK zm_190 138 [some (.ref 75), some (.int (Int32.ofNat β)), some (.int (zbi c)), some (.int (Int32.ofNat i)), some (.int (Int32.ofNat t)), none, none, none, none] [] p Q) := by
        intro hn
        have e1 : (some σ).bind (zclr r h d c i t q) = (some σ).bind (zdo r h d (bif c then 4 else 1, i, t, zneg r (zquo r (zlg c σ.2.1 i q) (zlg c σ.2.1 t q)))) := by
          rw [Option.bind_some, Option.bind_some]
          unfold zclr
          rw [if_neg hz, if_neg hn]
        rw [e1] at H
        have hsv := zclr_sv hsh.1 hw.2.1 hi ht hit hp
        refine s195 hsh.1 qo (fun pa2 pb2 pc2 => b190_138 ⟨fun hc => ?_, fun hc => ?_⟩)
        · subst hc
          exact s174g (s := (1, i, t, zneg r (zquo r (zlg false σ.2.1 i q) (zlg false σ.2.1 t q)))) hsh hB hg (fun _ => hsv) (fun _ => rfl) (fun rf' rs' pa' pb' pc' m' bad' f1 f2 => b190_163 (H rf' rs' pa' pb' pc' m' bad' f1 f2))
        · subst hc
          exact s174g (s := (4, i, t, zneg r (zquo r (zlg true σ.2.1 i q) (zlg true σ.2.1 t q)))) hsh hB hg (fun _ => hsv) (fun _ => rfl) (fun rf' rs' pa' pb' pc' m' bad' f1 f2 => b190_163 (H rf' rs' pa' pb' pc' m' bad' f1 f2))
      refine b190_99 ⟨fun hqz => go (fun h => ?_), fun hqz => ⟨fun hc => go (fun h => ?_), fun hc => ⟨by omega, by omega, fun hle => go (fun h => by omega), fun hlt => ?_⟩⟩⟩
      · exact absurd h.1 (zzr_f.mp hqz)
      · rw [hc] at h; cases h.2.1
      · refine H _ _ _ _ _ m false zfr_r ?_
        rw [Option.bind_some]
        unfold zclr
        rw [if_neg hz, if_pos ⟨zzr_t.mp hqz, hc, hlt⟩]
        exact hg
    · rw [ei.1, ei.2, zzr_t] at hz
      refine H _ _ _ _ _ m false zfr_r ?_
      rw [Option.bind_some]
      unfold zclr
      rw [if_pos hz]
      exact hg
/-- isClear -/
def zcm (m : Nat → Int32) (β : Nat) (c : Bool) (q : Nat) : Nat → Nat → Bool
  | 0, _ => true
  | y + 1, x => zzr (m (zln β c x q)) (m (zln β c x q + 1)) && zcm m β c q y (x + 1)
theorem zcm_iff {m : Nat → Int32} {β : Nat} {c : Bool} {q : Nat} {E : zMe} (hE : zRE m (β + 4) E) (hq : q < 4) : ∀ (y x : Nat), x + y ≤ 4 → (zcm m β c q y x = true ↔ ∀ k, k < x + y → x ≤ k → zlg c E k q = (0, 0)) := by
  intro y
  induction y with
  | zero => intro x _; exact ⟨fun _ k _ _ => by omega, fun _ => rfl⟩
  | succ y ih =>
    intro x hx
    have e := zRE_l hE c (show x < 4 by omega) hq
    simp only [zcm]
    rw [Bool.and_eq_true, ih (x + 1) (by omega), e.1, e.2, zzr_t]
    constructor
    · rintro ⟨h1, h2⟩ k hk1 hk2
      by_cases hk : k = x
      · subst hk; exact h1
      · exact h2 k (by omega) (by omega)
    · intro h1
      exact ⟨h1 x (by omega) (Nat.le_refl _), fun k hk1 hk2 => h1 k (by omega) (by omega)⟩
theorem l185 {K : zKt} {code rf rs pr pn : Int32} {bad : Bool} {J : zJt} {m pa pb pc vf vs : Nat → Int32} {B : zBt} {w : Nat → Int64} {p : Nat × Nat} {Q : zR → zH → Prop} {β q n : Nat} {c : Bool} (hB : β + 1068 ≤ 5340) (hq : q < 4) (hn : n ≤ 4) : ∀ (y x : Nat) (b : Bool), x + y = n → Q (.inl (some (.int (zbi (b && zcm m β c q y x))))) (zh K (code, rf, rs, bad, pr, pn, J) (m, pa, pb, pc, vf, vs, B) w) → zW zm_185 31 [some (.ref 75), some (.int (Int32.ofNat β)), some (.int (zbi c)), none, some (.int (Int32.ofNat q)), some (.int (Int32.ofNat n)), some (.int (zbi b)), some (.int (Int32.ofNat x)), none] [] p (zh K (code, rf, rs, bad, pr, pn, J) (m, pa, pb, pc, vf, vs, B) w) Q := by
  intro y
  induction y with
  | zero =>
    intro x b hx H
    rw [show (b && zcm m β c q 0 x) = b from Bool.and_true b] at H
    exact b185_31 ⟨fun _ => H, fun h => absurd ((zN_leI (by omega) (by omega)).mpr (by omega)) h⟩
  | succ y ih =>
    intro x b hx H
    have bx := zln_b (β := β) (c := c) (show x < 4 by omega) hq
    refine b185_31 ⟨fun h => absurd ((zN_leI (by omega) (by omega)).mp h) (by omega), fun _ => ⟨fun hb => ?_, fun hb => ⟨by omega, by omega, fun hz => ?_, fun hz => ?_⟩⟩⟩
    · subst hb; exact ih (x + 1) false (by omega) H
    · subst hb
      refine ih (x + 1) false (by omega) ?_
      simp only [zcm, hz, Bool.false_and, Bool.and_false] at H
      exact H
    · subst hb
      refine ih (x + 1) true (by omega) ?_
      simp only [zcm, hz, Bool.true_and] at H
      rw [Bool.true_and]
      exact H
theorem s185 {K : zKt} {code rf rs pr pn : Int32} {bad : Bool} {J : zJt} {m pa pb pc vf vs : Nat → Int32} {B : zBt} {w : Nat → Int64} {p : Nat × Nat} {Q : zR → zH → Prop} {β r h d q a : Nat} {c : Bool} (hsh : zsh r h d) (hB : β + 1068 ≤ 5340) (hh : zRh m β r h d) (hq : q < 4) (ha : a ≤ zll h d c) (H : ∀ b, (∀ E, zRE m (β + 4) E → b = zicl c E q a (zll h d c)) → Q (.inl (some (.int (zbi b)))) (zh K (code, rf, rs, bad, pr, pn, J) (m, pa, pb, pc, vf, vs, B) w)) :
    zT zm_185 [.ref 75, .int (Int32.ofNat β), .int (zbi c), .int (Int32.ofNat a), .int (Int32.ofNat q)] p (zh K (code, rf, rs, bad, pr, pn, J) (m, pa, pb, pc, vf, vs, B) w) Q := by
  have h4 := zll_le hsh c
  have go : zW zm_185 31 [some (.ref 75), some (.int (Int32.ofNat β)), some (.int (zbi c)), none, some (.int (Int32.ofNat q)), some (.int (Int32.ofNat (zll h d c))), some (.int (zbi true)), some (.int (Int32.ofNat a)), none] [] p (zh K (code, rf, rs, bad, pr, pn, J) (m, pa, pb, pc, vf, vs, B) w) Q := by
    refine l185 hB hq h4 (zll h d c - a) a true (by omega) (H _ (fun E hE => ?_))
    rw [Bool.true_and, Bool.eq_iff_iff, zcm_iff hE hq _ _ (by omega), zicl_iff, show a + (zll h d c - a) = zll h d c by omega]
  refine b185 ⟨fun hc => ⟨by omega, ?_⟩, fun hc => ⟨by omega, ?_⟩⟩
  · subst hc; rw [hh.2.1]; exact go
  · subst hc; rw [hh.2.2]; exact go
/-- smallest -/
theorem zob_n {k : Nat} (hk : k < 2147483648) : Int32.ofNat k ≠ -1 := by
  intro h
  have := congrArg Int32.toInt h
  rw [zN_i hk, show Int32.toInt (-1) = -1 from rfl] at this
  omega
theorem l188 {K : zKt} {code rf rs pr pn : Int32} {bad : Bool} {J : zJt} {m pb pc vf vs : Nat → Int32} {B : zBt} {w : Nat → Int64} {p : Nat × Nat} {Q : zR → zH → Prop} {β r h d q : Nat} {E : zMe} (hsh : zsh r h d) (hB : β + 1068 ≤ 5340) (hh : zRh m β r h d) (hm : zRE m (β + 4) E) (hE : zEw r h d E) (hq : q < 4) : ∀ (y x : Nat) (b : Option Nat) (l : Int64) (pa : Nat → Int32), x + y = h → (∀ k, b = some k → k < 4) → (∀ pa', Q (.inl (some (.int (zob (zsml r E q y x b l))))) (zh K (code, rf, rs, bad, pr, pn, J) (m, pa', pb, pc, vf, vs, B) w)) →
    zW zm_188 9 [some (.ref 75), some (.int (Int32.ofNat β)), none, some (.int (Int32.ofNat q)), some (.int (zob b)), some (.long l), none, some (.int (Int32.ofNat x)), none, none, none, none] [] p (zh K (code, rf, rs, bad, pr, pn, J) (m, pa, pb, pc, vf, vs, B) w) Q := by
  have h4 := hsh.2.2.1
  intro y
  induction y with
  | zero =>
    intro x b l pa hx hb H
    exact b188_9 ⟨by omega, fun _ => H pa, fun hn => absurd (by rw [hh.2.1]; exact (zN_leI (by omega) (by omega)).mpr (by omega)) hn⟩
  | succ y ih =>
    intro x b l pa hx hb H
    have e := hm x q (by omega) hq
    have k0 : m (β + 0) = Int32.ofNat r := hh.1
    refine b188_9 ⟨by omega, fun hn => absurd hn (by rw [hh.2.1, zN_leI (by omega) (by omega)]; omega), fun _ => ⟨by omega, by omega, by omega, ?_⟩⟩
    rw [k0, e.1, e.2]
    refine s189 hsh.1 (hE.1 x q) (fun pa' => ?_)
    have hz := zsz_i hsh.1 (hE.1 x q)
    have hle : ∀ a b : Int64, a ≤ b ↔ a.toInt ≤ b.toInt := fun a b => Int64.le_iff_toInt_le
    have hlt : ∀ a b : Int64, a < b ↔ a.toInt < b.toInt := fun a b => Int64.lt_iff_toInt_lt
    have take : (0 < (zsz r (E x q)).toInt ∧ (b = none ∨ zsz r (E x q) < l)) → zW zm_188 9 [some (.ref 75), some (.int (Int32.ofNat β)), none, some (.int (Int32.ofNat q)), some (.int (Int32.ofNat x)), some (.long (zsz r (E x q))), none, some (.int (Int32.ofNat (x + 1))), none, none, none, none] [] p (zh K (code, rf, rs, bad, pr, pn, J) (m, pa', pb, pc, vf, vs, B) w) Q := by
      intro hc
      simp only [zsml] at H
      rw [if_pos hc] at H
      exact ih (x + 1) (some x) (zsz r (E x q)) pa' (by omega) (fun k hk => by cases hk; omega) H
    have keep : ¬ (0 < (zsz r (E x q)).toInt ∧ (b = none ∨ zsz r (E x q) < l)) → zW zm_188 9 [some (.ref 75), some (.int (Int32.ofNat β)), none, some (.int (Int32.ofNat q)), some (.int (zob b)), some (.long l), none, some (.int (Int32.ofNat (x + 1))), none, none, none, none] [] p (zh K (code, rf, rs, bad, pr, pn, J) (m, pa', pb, pc, vf, vs, B) w) Q := by
      intro hc
      simp only [zsml] at H
      rw [if_neg hc] at H
      exact ih (x + 1) b l pa' (by omega) hb H
    have z0 : Int64.toInt 0 = 0 := rfl
    refine b188_59 ⟨fun (c0 : zsz r (E x q) ≤ 0) => keep (fun hc => ?_), fun (c0 : ¬ zsz r (E x q) ≤ 0) => ⟨fun c1 => take ⟨?_, ?_⟩, fun c1 => ⟨fun (c2 : l ≤ zsz r (E x q)) => keep (fun hc => ?_), fun (c2 : ¬ l ≤ zsz r (E x q)) => take ⟨?_, ?_⟩⟩⟩⟩
    · rw [hle, z0] at c0; omega
    · rw [hle, z0] at c0; omega
    · left
      cases b with
      | none => rfl
      | some k => exact absurd c1 (zob_n (by have := hb k rfl; omega))
    · rcases hc.2 with h2 | h2
      · subst h2; exact absurd rfl c1
      · rw [hlt] at h2; rw [hle] at c2; omega
    · rw [hle, z0] at c0; omega
    · right; rw [hlt]; rw [hle] at c2; omega
theorem s188 {K : zKt} {code rf rs pr pn : Int32} {bad : Bool} {J : zJt} {m pa pb pc vf vs : Nat → Int32} {B : zBt} {w : Nat → Int64} {p : Nat × Nat} {Q : zR → zH → Prop} {β r h d q a : Nat} {E : zMe} (hsh : zsh r h d) (hB : β + 1068 ≤ 5340) (hh : zRh m β r h d) (hm : zRE m (β + 4) E) (hE : zEw r h d E) (hq : q < 4) (ha : a ≤ h) (H : ∀ pa', Q (.inl (some (.int (zob (zsml r E q (h - a) a none 0))))) (zh K (code, rf, rs, bad, pr, pn, J) (m, pa', pb, pc, vf, vs, B) w)) :
    zT zm_188 [.ref 75, .int (Int32.ofNat β), .int (Int32.ofNat a), .int (Int32.ofNat q)] p (zh K (code, rf, rs, bad, pr, pn, J) (m, pa, pb, pc, vf, vs, B) w) Q := b188 (l188 hsh hB hh hm hE hq (h - a) a none 0 pa (by omega) (fun k hk => by cases hk) H)
/-- normalizes -/
theorem s197 {K : zKt} {code rf rs pr pn : Int32} {bad : Bool} {J : zJt} {m pa pb pc vf vs : Nat → Int32} {B : zBt} {w : Nat → Int64} {p : Nat × Nat} {Q : zR → zH → Prop} {β r h d a b : Nat} {O : zMe} {σ : zFo} (hsh : zsh r h d) (hB : β + 1068 ≤ 5340) (hg : zGB bad m β r h d O (some σ)) (ha : a < h) (hb : b < d) (h0 : σ.2.1 a b ≠ (0, 0))
    (H : ∀ rf' rs' pa' pb' pc' m' bad', zfr β m m' → zGB bad' m' β r h d O (znz r h d a b σ) → Q (.inl none) (zh K (code, rf', rs', bad', pr, pn, J) (m', pa', pb', pc', vf, vs, B) w)) :
    zT zm_197 [.ref 75, .int (Int32.ofNat β), .int (Int32.ofNat a), .int (Int32.ofNat b)] p (zh K (code, rf, rs, bad, pr, pn, J) (m, pa, pb, pc, vf, vs, B) w) Q := by
  have hg' := hg
  obtain ⟨rfl, hbk, hw⟩ := hg'
  have h4 := hsh.2.2.1
  have h5 := hsh.2.2.2.2
  have k0 : m (β + 0) = Int32.ofNat r := hbk.1.1
  have e := hbk.2.2.1 a b (by omega) (by omega)
  refine b197 ⟨by omega, by omega, by omega, ?_⟩
  rw [k0, e.1, e.2]
  refine s198 hsh.1 (hw.2.1.1 a b) h0 (fun pa1 => ?_)
  have go : znrm r (σ.2.1 a b) ≠ (1, 0) → zT zm_174 [.ref 75, .int (Int32.ofNat β), .int (2 : Int32), .int (Int32.ofNat a), .int (0 : Int32), .int (znrm r (σ.2.1 a b)).1, .int (znrm r (σ.2.1 a b)).2] p (zh K (code, (znrm r (σ.2.1 a b)).1, (znrm r (σ.2.1 a b)).2, false, pr, pn, J) (m, pa1, pb, pc, vf, vs, B) w) (zK zm_197 74 [none, none, none, none, none] [] p Q) := by
    intro hn
    have e1 : znz r h d a b σ = (some σ).bind (zdo r h d (2, a, 0, znrm r (σ.2.1 a b))) := by
      rw [Option.bind_some]; unfold znz; rw [if_neg hn]
    rw [e1] at H
    exact s174g (s := (2, a, 0, znrm r (σ.2.1 a b))) hsh hB hg (fun _ => znz_sv hsh.1 ha (zun_nrm hsh.1 (hw.2.1.1 a b))) (fun h => absurd (show 2 % 3 = 2 from rfl) h) (fun rf' rs' pa' pb' pc' m' bad' f1 f2 => b197_74 (H rf' rs' pa' pb' pc' m' bad' f1 f2))
  refine b197_36 ⟨fun h => (by cases h), fun _ => ⟨fun c1 => go (fun h => c1 (congrArg Prod.fst h)), fun c1 => ⟨fun c2 => ?_, fun c2 => go (fun h => c2 (congrArg Prod.snd h))⟩⟩⟩
  refine H _ _ _ _ _ m false zfr_r ?_
  unfold znz
  rw [if_pos (Prod.ext c1 c2)]
  exact hg
