/-! THE REFERENCE'S Smith form -/
def zFi (b : Option (Nat × Nat) × Int64) (pr pn : Int32) : Prop := (b.1 = none → b.2 = 0) ∧ (b.1 ≠ none → 0 < b.2.toInt) ∧ (∀ a c, b.1 = some (a, c) → pr = Int32.ofNat a ∧ pn = Int32.ofNat c)
theorem l201c {K : zKt} {code rf rs : Int32} {bad : Bool} {J : zJt} {m pb pc vf vs : Nat → Int32} {B : zBt} {w : Nat → Int64} {p : Nat × Nat} {Q : zR → zH → Prop} {β r h d t i : Nat} {E : zMe} (hsh : zsh r h d) (hB : β + 1068 ≤ 5340) (hh : zRh m β r h d) (hm : zRE m (β + 4) E) (hE : zEw r h d E) (hi : i < h) : ∀ (y x : Nat) (b : Option (Nat × Nat) × Int64) (pa : Nat → Int32) (pr pn : Int32), x + y = d → zFi b pr pn →
    (∀ pa' pr' pn', zFi (zfn1 r E i y x b) pr' pn' → zW zm_201 5 [some (.ref 75), some (.int (Int32.ofNat β)), some (.int (Int32.ofNat t)), some (.long (zfn1 r E i y x b).2), none, some (.int (Int32.ofNat (i + 1))), none, none, none, none] [] p (zh K (code, rf, rs, bad, pr', pn', J) (m, pa', pb, pc, vf, vs, B) w) Q) →
    zW zm_201 21 [some (.ref 75), some (.int (Int32.ofNat β)), some (.int (Int32.ofNat t)), some (.long b.2), none, some (.int (Int32.ofNat i)), some (.int (Int32.ofNat x)), none, none, none] [] p (zh K (code, rf, rs, bad, pr, pn, J) (m, pa, pb, pc, vf, vs, B) w) Q := by
  have h4 := hsh.2.2.1
  have h5 := hsh.2.2.2.2
  intro y
  induction y with
  | zero =>
    intro x b pa pr pn hx hb H
    exact b201_21 ⟨by omega, fun _ => H pa pr pn hb, fun hn => absurd (by rw [hh.2.2]; exact (zN_leI (by omega) (by omega)).mpr (by omega)) hn⟩
  | succ y ih =>
    intro x b pa pr pn hx hb H
    have e := hm i x (by omega) (by omega)
    have k0 : m (β + 0) = Int32.ofNat r := hh.1
    refine b201_21 ⟨by omega, fun hn => absurd hn (by rw [hh.2.2, zN_leI (by omega) (by omega)]; omega), fun _ => ⟨by omega, by omega, by omega, ?_⟩⟩
    rw [k0, e.1, e.2]
    refine s189 hsh.1 (hE.1 i x) (fun pa' => ?_)
    have hz := zsz_i hsh.1 (hE.1 i x)
    have hle : ∀ a b : Int64, a ≤ b ↔ a.toInt ≤ b.toInt := fun a b => Int64.le_iff_toInt_le
    have hlt : ∀ a b : Int64, a < b ↔ a.toInt < b.toInt := fun a b => Int64.lt_iff_toInt_lt
    have take : (0 < (zsz r (E i x)).toInt ∧ (b.1 = none ∨ zsz r (E i x) < b.2)) → zW zm_201 21 [some (.ref 75), some (.int (Int32.ofNat β)), some (.int (Int32.ofNat t)), some (.long (zsz r (E i x))), none, some (.int (Int32.ofNat i)), some (.int (Int32.ofNat (x + 1))), none, none, none] [] p (zh K (code, rf, rs, bad, Int32.ofNat i, Int32.ofNat x, J) (m, pa', pb, pc, vf, vs, B) w) Q := by
      intro hc
      simp only [zfn1] at H
      rw [if_pos hc] at H
      exact ih (x + 1) (some (i, x), zsz r (E i x)) pa' _ _ (by omega) ⟨fun h => (by cases h), fun _ => hc.1, fun a c h => by cases h; exact ⟨rfl, rfl⟩⟩ H
    have keep : ¬ (0 < (zsz r (E i x)).toInt ∧ (b.1 = none ∨ zsz r (E i x) < b.2)) → zW zm_201 21 [some (.ref 75), some (.int (Int32.ofNat β)), some (.int (Int32.ofNat t)), some (.long b.2), none, some (.int (Int32.ofNat i)), some (.int (Int32.ofNat (x + 1))), none, none, none] [] p (zh K (code, rf, rs, bad, pr, pn, J) (m, pa', pb, pc, vf, vs, B) w) Q := by
      intro hc
      simp only [zfn1] at H
      rw [if_neg hc] at H
      exact ih (x + 1) b pa' pr pn (by omega) hb H
    have z0 : Int64.toInt 0 = 0 := rfl
    refine b201_72 ⟨fun (c0 : zsz r (E i x) ≤ 0) => keep (fun hc => ?_), fun (c0 : ¬ zsz r (E i x) ≤ 0) => ⟨fun c1 => take ⟨?_, ?_⟩, fun c1 => ⟨fun (c2 : b.2 ≤ zsz r (E i x)) => keep (fun hc => ?_), fun (c2 : ¬ b.2 ≤ zsz r (E i x)) => take ⟨?_, ?_⟩⟩⟩⟩
    · rw [hle, z0] at c0; omega
    · rw [hle, z0] at c0; omega
    · left
      refine Classical.byContradiction (fun hn => ?_)
      have := hb.2.1 hn
      rw [c1, z0] at this
      omega
    · rcases hc.2 with h2 | h2
      · exact absurd (hb.1 h2) c1
      · rw [hlt] at h2; rw [hle] at c2; omega
    · rw [hle, z0] at c0; omega
    · right; rw [hlt]; rw [hle] at c2; omega
theorem l201 {K : zKt} {code rf rs : Int32} {bad : Bool} {J : zJt} {m pb pc vf vs : Nat → Int32} {B : zBt} {w : Nat → Int64} {p : Nat × Nat} {Q : zR → zH → Prop} {β r h d t : Nat} {E : zMe} (hsh : zsh r h d) (hB : β + 1068 ≤ 5340) (hh : zRh m β r h d) (hm : zRE m (β + 4) E) (hE : zEw r h d E) (ht : t ≤ d) : ∀ (y x : Nat) (b : Option (Nat × Nat) × Int64) (pa : Nat → Int32) (pr pn : Int32), x + y = h → zFi b pr pn →
    (∀ pa' pr' pn', (∀ a c, (zfn2 r E t d y x b).1 = some (a, c) → pr' = Int32.ofNat a ∧ pn' = Int32.ofNat c) → Q (.inl (some (.int (zbi (zfn2 r E t d y x b).1.isSome)))) (zh K (code, rf, rs, bad, pr', pn', J) (m, pa', pb, pc, vf, vs, B) w)) →
    zW zm_201 5 [some (.ref 75), some (.int (Int32.ofNat β)), some (.int (Int32.ofNat t)), some (.long b.2), none, some (.int (Int32.ofNat x)), none, none, none, none] [] p (zh K (code, rf, rs, bad, pr, pn, J) (m, pa, pb, pc, vf, vs, B) w) Q := by
  have h4 := hsh.2.2.1
  have h5 := hsh.2.2.2.2
  intro y
  induction y with
  | zero =>
    intro x b pa pr pn hx hb H
    have H := H pa pr pn hb.2.2
    have z0 : Int64.toInt 0 = 0 := rfl
    refine b201_5 ⟨by omega, fun _ => ⟨fun c => ?_, fun c => ?_⟩, fun hn => absurd (by rw [hh.2.1]; exact (zN_leI (by omega) (by omega)).mpr (by omega)) hn⟩
    · rw [Int64.le_iff_toInt_le, z0] at c
      have hn : b.1 = none := Classical.byContradiction (fun hn => by have := hb.2.1 hn; omega)
      simp only [zfn2, hn] at H
      exact H
    · rw [Int64.le_iff_toInt_le, z0] at c
      cases hv : b.1 with
      | none => rw [hb.1 hv, z0] at c; omega
      | some q =>
        simp only [zfn2, hv] at H
        exact H
  | succ y ih =>
    intro x b pa pr pn hx hb H
    refine b201_5 ⟨by omega, fun hn => absurd hn (by rw [hh.2.1, zN_leI (by omega) (by omega)]; omega), fun _ => ?_⟩
    refine l201c hsh hB hh hm hE (by omega) (d - t) t b pa pr pn (by omega) hb (fun pa' pr' pn' hb' => ?_)
    exact ih (x + 1) (zfn1 r E x (d - t) t b) pa' pr' pn' (by omega) hb' H
/-- finds -/
theorem s201 {K : zKt} {code rf rs pr pn : Int32} {bad : Bool} {J : zJt} {m pa pb pc vf vs : Nat → Int32} {B : zBt} {w : Nat → Int64} {p : Nat × Nat} {Q : zR → zH → Prop} {β r h d t : Nat} {E : zMe} (hsh : zsh r h d) (hB : β + 1068 ≤ 5340) (hh : zRh m β r h d) (hm : zRE m (β + 4) E) (hE : zEw r h d E) (ht : t ≤ d) (hth : t ≤ h) (H : ∀ pa' pr' pn', (∀ a c, zfnd r h d E t = some (a, c) → pr' = Int32.ofNat a ∧ pn' = Int32.ofNat c) → Q (.inl (some (.int (zbi (zfnd r h d E t).isSome)))) (zh K (code, rf, rs, bad, pr', pn', J) (m, pa', pb, pc, vf, vs, B) w)) :
    zT zm_201 [.ref 75, .int (Int32.ofNat β), .int (Int32.ofNat t)] p (zh K (code, rf, rs, bad, pr, pn, J) (m, pa, pb, pc, vf, vs, B) w) Q :=
  b201 (l201 hsh hB hh hm hE ht (h - t) t (none, 0) pa pr pn (by omega) ⟨fun _ => rfl, fun h => absurd rfl h, fun a c h => (by cases h)⟩ H)
theorem l203c {K : zKt} {code pr pn : Int32} {J : zJt} {m vf vs : Nat → Int32} {B : zBt} {w : Nat → Int64} {p : Nat × Nat} {Q : zR → zH → Prop} {β r h d t i : Nat} {E : zMe} (hsh : zsh r h d) (hB : β + 1068 ≤ 5340) (hh : zRh m β r h d) (hm : zRE m (β + 4) E) (hE : zEw r h d E) (ht : t < h) (htd : t < d) (hi : i < h) (hp : E t t ≠ (0, 0)) : ∀ (y x : Nat) (rf rs : Int32) (pa pb pc : Nat → Int32), x + y = d →
    (zud1 r E (E t t) i y x = true → ∀ rf' rs' pa' pb' pc', Q (.inl (some (.int (Int32.ofNat i)))) (zh K (code, rf', rs', false, pr, pn, J) (m, pa', pb', pc', vf, vs, B) w)) →
    (zud1 r E (E t t) i y x = false → ∀ rf' rs' pa' pb' pc', zW zm_203 22 [some (.ref 75), some (.int (Int32.ofNat β)), some (.int (Int32.ofNat t)), some (.int (Int32.ofNat r)), some (.int (Int32.ofNat (β + 4 + 8 * t + 2 * t))), some (.int (Int32.ofNat (i + 1))), none, none] [] p (zh K (code, rf', rs', false, pr, pn, J) (m, pa', pb', pc', vf, vs, B) w) Q) →
    zW zm_203 40 [some (.ref 75), some (.int (Int32.ofNat β)), some (.int (Int32.ofNat t)), some (.int (Int32.ofNat r)), some (.int (Int32.ofNat (β + 4 + 8 * t + 2 * t))), some (.int (Int32.ofNat i)), some (.int (Int32.ofNat x)), none] [] p (zh K (code, rf, rs, false, pr, pn, J) (m, pa, pb, pc, vf, vs, B) w) Q := by
  have h4 := hsh.2.2.1
  have h5 := hsh.2.2.2.2
  intro y
  induction y with
  | zero =>
    intro x rf rs pa pb pc hx H1 H2
    exact b203_40 ⟨by omega, fun _ => H2 rfl rf rs pa pb pc, fun hn => absurd (by rw [hh.2.2]; exact (zN_leI (by omega) (by omega)).mpr (by omega)) hn⟩
  | succ y ih =>
    intro x rf rs pa pb pc hx H1 H2
    have e := hm i x (by omega) (by omega)
    have et := hm t t (by omega) (by omega)
    refine b203_40 ⟨by omega, fun hn => absurd hn (by rw [hh.2.2, zN_leI (by omega) (by omega)]; omega), fun _ => ⟨by omega, by omega, by omega, by omega, ?_⟩⟩
    rw [e.1, e.2, et.1, et.2]
    obtain ⟨v, hv⟩ := zrem_some hsh.1 (hE.1 i x) (hE.1 t t) hp
    refine s204 hsh.1 (hE.1 i x) (hE.1 t t) hp (fun pa' pb' pc' => ?_)
    rw [show zrem r ((E i x).1, (E i x).2) ((E t t).1, (E t t).2) = some v from hv]
    refine b203_100 ⟨fun hz => ?_, fun hz => ?_⟩
    · have hv0 : v = (0, 0) := zzr_t.mp hz
      subst hv0
      simp only [zud1, hv, if_true] at H1 H2
      exact ih (x + 1) _ _ pa' pb' pc' (by omega) H1 H2
    · have hv0 : v ≠ (0, 0) := zzr_f.mp hz
      have : zud1 r E (E t t) i (y + 1) x = true := by
        simp only [zud1, hv]
        rw [if_neg (fun h => hv0 (Option.some.inj h))]
      exact H1 this _ _ _ _ _
theorem l203 {K : zKt} {code pr pn : Int32} {J : zJt} {m vf vs : Nat → Int32} {B : zBt} {w : Nat → Int64} {p : Nat × Nat} {Q : zR → zH → Prop} {β r h d t : Nat} {E : zMe} (hsh : zsh r h d) (hB : β + 1068 ≤ 5340) (hh : zRh m β r h d) (hm : zRE m (β + 4) E) (hE : zEw r h d E) (ht : t < h) (htd : t < d) (hp : E t t ≠ (0, 0)) : ∀ (y x : Nat) (rf rs : Int32) (pa pb pc : Nat → Int32), x + y = h →
    (∀ rf' rs' pa' pb' pc', Q (.inl (some (.int (zob (zud2 r E t d y x))))) (zh K (code, rf', rs', false, pr, pn, J) (m, pa', pb', pc', vf, vs, B) w)) →
    zW zm_203 22 [some (.ref 75), some (.int (Int32.ofNat β)), some (.int (Int32.ofNat t)), some (.int (Int32.ofNat r)), some (.int (Int32.ofNat (β + 4 + 8 * t + 2 * t))), some (.int (Int32.ofNat x)), none, none] [] p (zh K (code, rf, rs, false, pr, pn, J) (m, pa, pb, pc, vf, vs, B) w) Q := by
  have h4 := hsh.2.2.1
  have h5 := hsh.2.2.2.2
  intro y
  induction y with
  | zero =>
    intro x rf rs pa pb pc hx H
    exact b203_22 ⟨by omega, fun _ => H rf rs pa pb pc, fun hn => absurd (by rw [hh.2.1]; exact (zN_leI (by omega) (by omega)).mpr (by omega)) hn⟩
  | succ y ih =>
    intro x rf rs pa pb pc hx H
    refine b203_22 ⟨by omega, fun hn => absurd hn (by rw [hh.2.1, zN_leI (by omega) (by omega)]; omega), fun _ => ?_⟩
    refine l203c hsh hB hh hm hE ht htd (by omega) hp (d - (t + 1)) (t + 1) rf rs pa pb pc (by omega) (fun h1 rf' rs' pa' pb' pc' => ?_) (fun h1 rf' rs' pa' pb' pc' => ?_)
    · have H := H rf' rs' pa' pb' pc'
      simp only [zud2] at H
      rw [if_pos h1] at H
      exact H
    · simp only [zud2] at H
      rw [if_neg (by rw [h1]; decide)] at H
      exact ih (x + 1) rf' rs' pa' pb' pc' (by omega) H
/-- undivided -/
theorem s203 {K : zKt} {code rf rs pr pn : Int32} {J : zJt} {m pa pb pc vf vs : Nat → Int32} {B : zBt} {w : Nat → Int64} {p : Nat × Nat} {Q : zR → zH → Prop} {β r h d t : Nat} {E : zMe} (hsh : zsh r h d) (hB : β + 1068 ≤ 5340) (hh : zRh m β r h d) (hm : zRE m (β + 4) E) (hE : zEw r h d E) (ht : t < h) (htd : t < d) (hp : E t t ≠ (0, 0)) (H : ∀ rf' rs' pa' pb' pc', Q (.inl (some (.int (zob (zund r h d E t))))) (zh K (code, rf', rs', false, pr, pn, J) (m, pa', pb', pc', vf, vs, B) w)) :
    zT zm_203 [.ref 75, .int (Int32.ofNat β), .int (Int32.ofNat t)] p (zh K (code, rf, rs, false, pr, pn, J) (m, pa, pb, pc, vf, vs, B) w) Q := by
  have k0 : m (β + 0) = Int32.ofNat r := hh.1
  refine b203 ⟨by omega, ?_⟩
  rw [k0]
  exact l203 hsh hB hh hm hE ht htd hp (h - (t + 1)) (t + 1) rf rs pa pb pc (by omega) H
theorem l202c {K : zKt} {code pr pn : Int32} {J : zJt} {vf vs : Nat → Int32} {B : zBt} {w : Nat → Int64} {p : Nat × Nat} {Q : zR → zH → Prop} {β r h d t : Nat} {O : zMe} {m0 : Nat → Int32} {oF : Option zFo} (hsh : zsh r h d) (hB : β + 1068 ≤ 5340) (ht : t < h) (htd : t < d)
    (H : ∀ rf' rs' pa' pb' pc' m' bad', zfr β m0 m' → zGB bad' m' β r h d O oF → ((bad' = true → zW zm_202 5 [some (.ref 75), some (.int (Int32.ofNat β)), some (.int (Int32.ofNat t)), some (.int (Int32.ofNat 1)), some (.int (Int32.ofNat 0)), none, none, none] [] p (zh K (code, rf', rs', bad', pr, pn, J) (m', pa', pb', pc', vf, vs, B) w) Q) ∧
      (bad' = false → zT zm_185 [.ref 75, .int (Int32.ofNat β), .int (zbi false), .int (Int32.ofNat (t + 1)), .int (Int32.ofNat t)] p (zh K (code, rf', rs', bad', pr, pn, J) (m', pa', pb', pc', vf, vs, B) w) (zK zm_202 158 [some (.ref 75), some (.int (Int32.ofNat β)), some (.int (Int32.ofNat t)), none, none, none, none, none] [] p Q)))) :
    ∀ (y x : Nat) (rf rs : Int32) (pa pb pc m : Nat → Int32) (bad : Bool) (o : Option zFo), x + y = d → t < x → zfr β m0 m → zGB bad m β r h d O o → (∀ σ, o = some σ → zlg true σ.2.1 t t ≠ (0, 0)) → zclrs r h d true t t y x o = oF →
    zW zm_202 112 [some (.ref 75), some (.int (Int32.ofNat β)), some (.int (Int32.ofNat t)), none, none, some (.int (Int32.ofNat x)), none, none] [] p (zh K (code, rf, rs, bad, pr, pn, J) (m, pa, pb, pc, vf, vs, B) w) Q := by
  have h5 := hsh.2.2.2.2
  intro y
  induction y with
  | zero =>
    intro x rf rs pa pb pc m bad o hx htx hf hg hp he
    have he : o = oF := he
    subst he
    refine b202_112 ⟨by omega, fun _ => ?_, fun hn => absurd (by rw [(zGB_h hg).2.2]; exact (zN_leI (by omega) (by omega)).mpr (by omega)) hn⟩
    rw [show Int32.ofNat t + (1 : Int32) = Int32.ofNat (t + 1) from zN_a rfl rfl]
    exact H rf rs pa pb pc m bad hf hg
  | succ y ih =>
    intro x rf rs pa pb pc m bad o hx htx hf hg hp he
    refine b202_112 ⟨by omega, fun hn => absurd hn (by rw [(zGB_h hg).2.2, zN_leI (by omega) (by omega)]; omega), fun _ => s190 (c := true) hsh hB hg (show x < d by omega) (show t < d by omega) (by omega) (show t < h by omega) hp (fun rf' rs' pa' pb' pc' m' bad' f1 f2 => b202_135 ?_)⟩
    exact ih (x + 1) rf' rs' pa' pb' pc' m' bad' _ (by omega) (by omega) (zfr_t hf f1) f2 (zPv_clr hsh.1 hg (show x < d by omega) (show t < d by omega) (by omega) hp) he
theorem l202r {K : zKt} {code pr pn : Int32} {J : zJt} {vf vs : Nat → Int32} {B : zBt} {w : Nat → Int64} {p : Nat × Nat} {Q : zR → zH → Prop} {β r h d t : Nat} {O : zMe} {m0 : Nat → Int32} {oF : Option zFo} (hsh : zsh r h d) (hB : β + 1068 ≤ 5340) (ht : t < h) (htd : t < d)
    (H : ∀ rf' rs' pa' pb' pc' m' bad', zfr β m0 m' → zGB bad' m' β r h d O oF → zW zm_202 112 [some (.ref 75), some (.int (Int32.ofNat β)), some (.int (Int32.ofNat t)), none, none, some (.int (Int32.ofNat (t + 1))), none, none] [] p (zh K (code, rf', rs', bad', pr, pn, J) (m', pa', pb', pc', vf, vs, B) w) Q) :
    ∀ (y x : Nat) (rf rs : Int32) (pa pb pc m : Nat → Int32) (bad : Bool) (o : Option zFo), x + y = h → t < x → zfr β m0 m → zGB bad m β r h d O o → (∀ σ, o = some σ → zlg false σ.2.1 t t ≠ (0, 0)) → zclrs r h d false t t y x o = oF →
    zW zm_202 78 [some (.ref 75), some (.int (Int32.ofNat β)), some (.int (Int32.ofNat t)), none, none, none, none, some (.int (Int32.ofNat x))] [] p (zh K (code, rf, rs, bad, pr, pn, J) (m, pa, pb, pc, vf, vs, B) w) Q := by
  have h4 := hsh.2.2.1
  intro y
  induction y with
  | zero =>
    intro x rf rs pa pb pc m bad o hx htx hf hg hp he
    have he : o = oF := he
    subst he
    exact b202_78 ⟨by omega, fun _ => H rf rs pa pb pc m bad hf hg, fun hn => absurd (by rw [(zGB_h hg).2.1]; exact (zN_leI (by omega) (by omega)).mpr (by omega)) hn⟩
  | succ y ih =>
    intro x rf rs pa pb pc m bad o hx htx hf hg hp he
    refine b202_78 ⟨by omega, fun hn => absurd hn (by rw [(zGB_h hg).2.1, zN_leI (by omega) (by omega)]; omega), fun _ => s190 (c := false) hsh hB hg (show x < h by omega) (show t < h by omega) (by omega) (show t < d by omega) hp (fun rf' rs' pa' pb' pc' m' bad' f1 f2 => b202_101 ?_)⟩
    exact ih (x + 1) rf' rs' pa' pb' pc' m' bad' _ (by omega) (by omega) (zfr_t hf f1) f2 (zPv_clr hsh.1 hg (show x < h by omega) (show t < h by omega) (by omega) hp) he
theorem zfnd_nn {r h d t : Nat} (hr : zrg r) {E : zMe} (hE : zEw r h d E) (ht : t < h) (htd : t < d) (hp : E t t ≠ (0, 0)) : zfnd r h d E t ≠ none := fun h => hp (zfnd_n hr hE (by omega) h t t (Nat.le_refl _) ht (Nat.le_refl _) htd)
theorem l202 {K : zKt} {code : Int32} {J : zJt} {vf vs : Nat → Int32} {B : zBt} {w : Nat → Int64} {p : Nat × Nat} {Q : zR → zH → Prop} {β r h d t N : Nat} {O : zMe} {m0 : Nat → Int32} {oF : Option (Nat × zFo)} (hsh : zsh r h d) (hB : β + 1068 ≤ 5340)
    (H1 : ∀ n' υ, n' < N → 205 ≤ n' + υ.1 + (t + 1) → zsmt r h d n' true (t + 1) υ = oF → t + 1 ≤ h → t + 1 ≤ d → ∀ rf' rs' pa' pb' pc' pr' pn' m', zfr β m0 m' → zGB false m' β r h d O (some υ) → Q (.inl none) (zh K (code, rf', rs', false, pr', pn', J) (m', pa', pb', pc', vf, vs, B) w))
    (H2 : oF = none → ∀ rf' rs' pa' pb' pc' pr' pn' m', zfr β m0 m' → zRh m' β r h d → Q (.inl none) (zh K (code, rf', rs', true, pr', pn', J) (m', pa', pb', pc', vf, vs, B) w)) :
    ∀ (n : Nat) (ch : Bool) (rf rs pr pn : Int32) (pa pb pc m : Nat → Int32) (σ : zFo), n ≤ N → 205 ≤ n + σ.1 + t → zfr β m0 m → zGB false m β r h d O (some σ) → zIn2 h d ch t σ → (ch = true → zfnd r h d σ.2.1 t ≠ none) → zsmt r h d n ch t σ = oF →
    zW zm_202 5 [some (.ref 75), some (.int (Int32.ofNat β)), some (.int (Int32.ofNat t)), some (.int (Int32.ofNat (bif ch then 1 else 0))), some (.int (Int32.ofNat 0)), none, none, none] [] p (zh K (code, rf, rs, false, pr, pn, J) (m, pa, pb, pc, vf, vs, B) w) Q := by
  have h4 := hsh.2.2.1
  have h5 := hsh.2.2.2.2
  intro n
  induction n with
  | zero => intro ch rf rs pr pn pa pb pc m σ _ hn _ hg hi; have := hg.2.2.1; have := hi.1; omega
  | succ n ih =>
    intro ch rf rs pr pn pa pb pc m σ hN hn hf hg hi hfd he
    have hg' := hg
    obtain ⟨_, hb, hw⟩ := hg'
    simp only [zsmt] at he
    -- what stands behind the clearing
    have tail : ∀ o, zsmB r h d t ch σ = some o → t < h → t < d → ∀ rf' rs' pr' pn' pa' pb' pc' m' bad', zfr β m0 m' → zGB bad' m' β r h d O o → ((bad' = true → zW zm_202 5 [some (.ref 75), some (.int (Int32.ofNat β)), some (.int (Int32.ofNat t)), some (.int (Int32.ofNat 1)), some (.int (Int32.ofNat 0)), none, none, none] [] p (zh K (code, rf', rs', bad', pr', pn', J) (m', pa', pb', pc', vf, vs, B) w) Q) ∧
        (bad' = false → zT zm_185 [.ref 75, .int (Int32.ofNat β), .int (zbi false), .int (Int32.ofNat (t + 1)), .int (Int32.ofNat t)] p (zh K (code, rf', rs', bad', pr', pn', J) (m', pa', pb', pc', vf, vs, B) w) (zK zm_202 158 [some (.ref 75), some (.int (Int32.ofNat β)), some (.int (Int32.ofNat t)), none, none, none, none, none] [] p Q))) := by
      intro o ho ht htd rf' rs' pr' pn' pa' pb' pc' m' bad' f1 f2
      rw [ho] at he
      cases o with
      | none =>
        obtain ⟨rfl, hh⟩ := f2
        refine ⟨fun _ => ?_, fun h => (by cases h)⟩
        exact b202_5 ⟨by omega, fun h => absurd rfl h, fun _ => ⟨fun _ => ⟨fun _ => H2 he.symm rf' rs' pa' pb' pc' pr' pn' m' f1 hh, fun h => (by cases h)⟩, fun h => (by cases h)⟩⟩
      | some τ =>
        have f2' := f2
        obtain ⟨rfl, hb2, hw2⟩ := f2'
        refine ⟨fun h => (by cases h), fun _ => ?_⟩
        obtain ⟨b1, b2, b3, b4, b5, b6, b7⟩ := zsmB_w hsh hw hi ho
        have he : (if zxcl h d τ.2.1 t = false then zsmt r h d n true t τ else match zund r h d τ.2.1 t with
          | some i => match zdo r h d (1, t, i, (1, 0)) τ with
            | none => none
            | some υ => zsmt r h d n false t υ
          | none => match znz r h d t t τ with
            | none => none
            | some υ => zsmt r h d n true (t + 1) υ) = oF := he
        have again : zxcl h d τ.2.1 t = false → zW zm_202 5 [some (.ref 75), some (.int (Int32.ofNat β)), some (.int (Int32.ofNat t)), some (.int (Int32.ofNat 1)), some (.int (Int32.ofNat 0)), none, none, none] [] p (zh K (code, rf', rs', false, pr', pn', J) (m', pa', pb', pc', vf, vs, B) w) Q := by
          intro hx
          rw [if_pos hx] at he
          have := b6 hx
          exact ih true rf' rs' pr' pn' pa' pb' pc' m' τ (by omega) (by omega) f1 f2 ⟨hi.1, hi.2.1, fun h => (by cases h)⟩ (fun _ => zfnd_nn hsh.1 hw2.2.1 b2 b3 b4) he
        refine s185 (c := false) hsh hB hb2.1 (by omega) (show t + 1 ≤ h by omega) (fun b hbb => ?_)
        have hbv : b = zicl false τ.2.1 t (t + 1) h := hbb _ hb2.2.2.1
        refine b202_158 ⟨fun hrv => again ?_, fun hrv => ?_⟩
        · unfold zxcl; rw [← hbv, hrv]; rfl
        · rw [show Int32.ofNat t + (1 : Int32) = Int32.ofNat (t + 1) from zN_a rfl rfl]
          refine s185 (c := true) hsh hB hb2.1 (by omega) (show t + 1 ≤ d by omega) (fun b' hbb' => ?_)
          have hbv' : b' = zicl true τ.2.1 t (t + 1) d := hbb' _ hb2.2.2.1
          refine b202_171 ⟨fun hrv' => ?_, fun hrv' => again ?_⟩
          · have hx : zxcl h d τ.2.1 t = true := by unfold zxcl; rw [← hbv, ← hbv', hrv, hrv']; rfl
            obtain ⟨x1, x2⟩ := zxcl_t hx
            rw [if_neg (by rw [hx]; decide)] at he
            refine s203 hsh hB hb2.1 hb2.2.2.1 hw2.2.1 b2 b3 b4 (fun rf2 rs2 pa2 pb2 pc2 => ?_)
            cases hu : zund r h d τ.2.1 t with
            | none =>
              rw [hu] at he
              refine b202_194 ⟨by omega, fun h => absurd rfl h, fun _ => ⟨fun h => absurd rfl h, fun _ => ⟨fun _ => ?_, fun h => absurd rfl h⟩⟩⟩
              refine b202_5 ⟨by omega, fun _ => ⟨fun h => (by cases h), fun _ => ?_⟩, fun h => absurd h (by decide)⟩
              refine s197 hsh hB f2 b2 b3 b4 (fun rf3 rs3 pa3 pb3 pc3 m3 bad3 k1 k2 => b202_247 ?_)
              cases hz : znz r h d t t τ with
              | none =>
                rw [hz] at he k2
                obtain ⟨rfl, hh⟩ := k2
                exact H2 he.symm rf3 rs3 pa3 pb3 pc3 pr' pn' m3 (zfr_t f1 k1) hh
              | some υ =>
                rw [hz] at he k2
                have k2' := k2
                obtain ⟨rfl, _, _⟩ := k2'
                obtain ⟨_, _, n3, _⟩ := znz_w hsh.1 b1 b2 b3 b4 hz
                exact H1 n υ (by omega) (by omega) he (by omega) (by omega) rf3 rs3 pa3 pb3 pc3 pr' pn' m3 (zfr_t f1 k1) k2
            | some i =>
              simp only [hu] at he
              obtain ⟨u1, u2⟩ := zund_s hu
              have hne : (Int32.ofNat i) ≠ -1 := zob_n (by omega)
              refine b202_194 ⟨by omega, fun h => absurd rfl h, fun _ => ⟨fun _ => ⟨fun h => absurd h hne, fun _ => ?_⟩, fun h => absurd h hne⟩⟩
              refine s174g (s := (1, t, i, (1, 0))) hsh hB f2 (fun _ => zadd_sv (c := false) (show t < h by omega) u2 (by omega) (zok_1 hsh.1)) (fun _ => rfl) (fun rf3 rs3 pa3 pb3 pc3 m3 bad3 k1 k2 => b202_230 ?_)
              rw [Option.bind_some] at k2
              cases hz : zdo r h d (1, t, i, (1, 0)) τ with
              | none =>
                rw [hz] at he k2
                obtain ⟨rfl, hh⟩ := k2
                exact b202_5 ⟨by omega, fun h => absurd rfl h, fun _ => ⟨fun _ => ⟨fun _ => H2 he.symm rf3 rs3 pa3 pb3 pc3 pr' pn' m3 (zfr_t f1 k1) hh, fun h => (by cases h)⟩, fun h => (by cases h)⟩⟩
              | some υ =>
                rw [hz] at he k2
                have k2' := k2
                obtain ⟨rfl, _, _⟩ := k2'
                obtain ⟨a1, a2, a3, a4⟩ := zadd1 hsh b1 u1 u2 b3 b4 x1 hz
                exact ih false rf3 rs3 pr' pn' pa3 pb3 pc3 m3 υ (by omega) (by omega) (zfr_t f1 k1) k2 a2 (fun h => (by cases h)) he
          · unfold zxcl; rw [← hbv', hrv', Bool.and_false]
    cases ch with
    | false =>
      obtain ⟨j1, j2, j3, j4⟩ := hi.2.2 rfl
      refine b202_5 ⟨by omega, fun h => absurd rfl h, fun _ => ⟨fun h => (by cases h), fun _ => ⟨by show (0 : Nat) < 2147483648; omega, fun _ => ?_, fun h => absurd rfl h⟩⟩⟩
      exact l202c (oF := zclrs r h d true t t (d - (t + 1)) (t + 1) (some σ)) hsh hB j1 j2 (fun rf' rs' pa' pb' pc' m' bad' f1 f2 => tail _ rfl j1 j2 rf' rs' pr pn pa' pb' pc' m' bad' f1 f2) (d - (t + 1)) (t + 1) rf rs pa pb pc m false (some σ) (by omega) (by omega) hf hg (fun σ' e => by cases e; exact j3) rfl
    | true =>
      refine b202_5 ⟨by omega, fun h => absurd rfl h, fun _ => ⟨fun h => (by cases h), fun _ => ⟨by show (1 : Nat) < 2147483648; omega, fun h => absurd h (by show (1 : Nat) ≠ 0; decide), fun _ => ?_⟩⟩⟩
      refine s201 hsh hB hb.1 hb.2.2.1 hw.2.1 hi.2.1 hi.1 (fun pa1 pr1 pn1 hpp => ?_)
      cases hfn : zfnd r h d σ.2.1 t with
      | none => exact absurd hfn (hfd rfl)
      | some ij =>
        obtain ⟨f1, f2, f3, f4, f5⟩ := zfnd_s hsh.1 hw.2.1 hi.2.1 hfn
        obtain ⟨rfl, rfl⟩ := hpp ij.1 ij.2 hfn
        have hsB : zsmB r h d t true σ = some (zclrs r h d true t t (d - (t + 1)) (t + 1) (zclrs r h d false t t (h - (t + 1)) (t + 1) (zbrg r h d t ij.1 ij.2 σ))) := by
          simp only [zsmB, hfn]
        have c78 : ∀ rf' rs' pa' pb' pc' m' bad', zfr β m0 m' → zGB bad' m' β r h d O (zbrg r h d t ij.1 ij.2 σ) → zW zm_202 78 [some (.ref 75), some (.int (Int32.ofNat β)), some (.int (Int32.ofNat t)), none, none, none, none, some (.int (Int32.ofNat (t + 1)))] [] p (zh K (code, rf', rs', bad', Int32.ofNat ij.1, Int32.ofNat ij.2, J) (m', pa', pb', pc', vf, vs, B) w) Q := by
          intro rf' rs' pa' pb' pc' m' bad' g1 g2
          have hpv : ∀ σ', zbrg r h d t ij.1 ij.2 σ = some σ' → zlg false σ'.2.1 t t ≠ (0, 0) := by
            intro σ' e
            obtain ⟨_, w2, _⟩ := zbrg_w hsh.1 hw (show t < h by omega) (show t < d by omega) f2 f4 f1 f3 e
            show σ'.2.1 t t ≠ (0, 0)
            rw [w2]; exact f5
          refine l202r (oF := zclrs r h d false t t (h - (t + 1)) (t + 1) (zbrg r h d t ij.1 ij.2 σ)) hsh hB (by omega) (by omega) (fun rf2 rs2 pa2 pb2 pc2 m2 bad2 k1 k2 => ?_) (h - (t + 1)) (t + 1) rf' rs' pa' pb' pc' m' bad' _ (by omega) (by omega) g1 g2 hpv rfl
          refine l202c (oF := zclrs r h d true t t (d - (t + 1)) (t + 1) (zclrs r h d false t t (h - (t + 1)) (t + 1) (zbrg r h d t ij.1 ij.2 σ))) hsh hB (by omega) (by omega) (fun rf3 rs3 pa3 pb3 pc3 m3 bad3 l1 l2 => tail _ hsB (by omega) (by omega) rf3 rs3 _ _ pa3 pb3 pc3 m3 bad3 l1 l2) (d - (t + 1)) (t + 1) rf2 rs2 pa2 pb2 pc2 m2 bad2 _ (by omega) (by omega) k1 k2 (fun σ2 e2 => ?_) rfl
          cases hbg : zbrg r h d t ij.1 ij.2 σ with
          | none => rw [hbg, zclrs_none] at e2; cases e2
          | some σ1 =>
            rw [hbg] at e2
            obtain ⟨w1, w2, _⟩ := zbrg_w hsh.1 hw (show t < h by omega) (show t < d by omega) f2 f4 f1 f3 hbg
            obtain ⟨_, v2, _⟩ := zclrs_w hsh.1 (c := false) (show t < h by omega) (h - (t + 1)) (t + 1) σ1 σ2 (show t + 1 + (h - (t + 1)) ≤ h by omega) (Or.inl (by omega)) w1 (hpv σ1 hbg) e2
            have : σ2.2.1 t t = σ1.2.1 t t := v2 t t (Or.inl (by omega))
            show σ2.2.1 t t ≠ (0, 0)
            rw [this]
            exact hpv σ1 hbg
        have col : ∀ rf' rs' pa' pb' pc' m' bad', zfr β m0 m' → zGB bad' m' β r h d O (zswp r h d 0 t ij.1 σ) → ij.2 ≠ t → zT zm_174 [.ref 75, .int (Int32.ofNat β), .int (3 : Int32), .int (Int32.ofNat t), .int (Int32.ofNat ij.2), .int (0 : Int32), .int (0 : Int32)] p (zh K (code, rf', rs', bad', Int32.ofNat ij.1, Int32.ofNat ij.2, J) (m', pa', pb', pc', vf, vs, B) w) (zK zm_202 73 [some (.ref 75), some (.int (Int32.ofNat β)), some (.int (Int32.ofNat t)), none, none, none, none, none] [] p Q) := by
          intro rf' rs' pa' pb' pc' m' bad' g1 g2 hne
          refine s174g (s := (3, t, ij.2, (0, 0))) hsh hB g2 (fun _ => zswp_sv hsh.1 true (show ij.2 < d by omega) (show t < d by omega) hne) (fun _ => rfl) (fun rf2 rs2 pa2 pb2 pc2 m2 bad2 k1 k2 => b202_73 (c78 rf2 rs2 pa2 pb2 pc2 m2 bad2 (zfr_t g1 k1) ?_))
          have : zbrg r h d t ij.1 ij.2 σ = (zswp r h d 0 t ij.1 σ).bind (zdo r h d (3, t, ij.2, (0, 0))) := by
            unfold zbrg
            congr 1
            funext ω
            unfold zswp
            rw [if_neg hne]
          rw [this]
          exact k2
        have col0 : ij.2 = t → zbrg r h d t ij.1 ij.2 σ = zswp r h d 0 t ij.1 σ := by
          intro h2
          unfold zbrg
          have : zswp r h d 3 t ij.2 = some := by
            funext ω
            unfold zswp
            rw [if_pos h2]
          rw [this]
          cases zswp r h d 0 t ij.1 σ <;> rfl
        have inj : ∀ {a : Nat}, a < 4 → Int32.ofNat a = Int32.ofNat t → a = t := fun ha h => zN_inj (by omega) (by omega) h
        refine b202_27 ⟨fun hpr => ?_, fun hpr => ?_⟩
        · have e1 : zswp r h d 0 t ij.1 σ = some σ := by unfold zswp; rw [if_pos (inj (by omega) hpr)]
          refine ⟨fun hpn => ?_, fun hpn => ?_⟩
          · refine c78 _ _ _ _ _ m false hf ?_
            rw [col0 (inj (by omega) hpn), e1]
            exact hg
          · exact col _ _ _ _ _ m false hf (by rw [e1]; exact hg) (fun h => hpn (by rw [h]))
        · have hne : ij.1 ≠ t := fun h => hpr (by rw [h])
          have e1 : zswp r h d 0 t ij.1 σ = (some σ).bind (zdo r h d (0, t, ij.1, (0, 0))) := by rw [Option.bind_some]; unfold zswp; rw [if_neg hne]
          refine s174g (s := (0, t, ij.1, (0, 0))) hsh hB hg (fun _ => zswp_sv hsh.1 false (show ij.1 < h by omega) (show t < h by omega) hne) (fun _ => rfl) (fun rf2 rs2 pa2 pb2 pc2 m2 bad2 k1 k2 => ?_)
          rw [← e1] at k2
          refine b202_56 ⟨fun hpn => ?_, fun hpn => ?_⟩
          · refine c78 _ _ _ _ _ m2 bad2 (zfr_t hf k1) ?_
            rw [col0 (inj (by omega) hpn)]
            exact k2
          · exact col _ _ _ _ _ m2 bad2 (zfr_t hf k1) k2 (fun h => hpn (by rw [h]))
