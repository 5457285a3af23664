/-! THE REFERENCE'S BLOCKS: a matrix of the middle in the reference's memory -/
theorem zN_leI {a b : Nat} (ha : a < 2147483648) (hb : b < 2147483648) : Int32.ofNat a ≤ Int32.ofNat b ↔ a ≤ b := by
  rw [Int32.le_iff_toInt_le, zN_i ha, zN_i hb]; omega
theorem zu2_0 {m : Nat → Int32} {X : Nat} {a b : Int32} : va_up (va_up m X a) (X + 1) b X = a := by
  rw [va_up_ne _ _ (by omega), va_up_self]
theorem zu2_1 {m : Nat → Int32} {X : Nat} {a b : Int32} : va_up (va_up m X a) (X + 1) b (X + 1) = b := va_up_self _ _ _
theorem zu2_n {m : Nat → Int32} {X k : Nat} {a b : Int32} (h1 : k ≠ X) (h2 : k ≠ X + 1) : va_up (va_up m X a) (X + 1) b k = m k := by
  rw [va_up_ne _ _ h2, va_up_ne _ _ h1]
def zsj (s : zSt) : Int32 := if s.1 % 3 = 2 then -1 else Int32.ofNat s.2.2.1
def zRE (m : Nat → Int32) (A : Nat) (E : zMe) : Prop := ∀ a c, a < 4 → c < 4 → m (A + 8 * a + 2 * c) = (E a c).1 ∧ m (A + 8 * a + 2 * c + 1) = (E a c).2
def zRg (m : Nat → Int32) (A : Nat) (s : zSt) : Prop := m A = Int32.ofNat s.1 ∧ m (A + 1) = Int32.ofNat s.2.1 ∧ m (A + 2) = zsj s ∧ m (A + 3) = s.2.2.2.1 ∧ m (A + 4) = s.2.2.2.2
def zRh (m : Nat → Int32) (β r h d : Nat) : Prop := m β = Int32.ofNat r ∧ m (β + 1) = Int32.ofNat h ∧ m (β + 2) = Int32.ofNat d
def zRb (m : Nat → Int32) (β r h d : Nat) (O : zMe) (σ : zFo) : Prop := zRh m β r h d ∧ m (β + 3) = Int32.ofNat σ.1 ∧ zRE m (β + 4) σ.2.1 ∧ zRE m (β + 36) O ∧ ∀ k, k < σ.1 → zRg m (β + 68 + 5 * k) (σ.2.2 k)
def zfr (β : Nat) (m m' : Nat → Int32) : Prop := ∀ k, (k < β ∨ β + 1068 ≤ k) → m' k = m k
theorem zfr_t {β : Nat} {m m' m'' : Nat → Int32} (h : zfr β m m') (h' : zfr β m' m'') : zfr β m m'' := fun k hk => (h' k hk).trans (h k hk)
theorem zfr_r {β : Nat} {m : Nat → Int32} : zfr β m m := fun _ _ => rfl
theorem zRE_eq {m m' : Nat → Int32} {A : Nat} {E : zMe} (h : ∀ k, A ≤ k → k < A + 32 → m' k = m k) (hE : zRE m A E) : zRE m' A E := by
  intro a c ha hc
  rw [h _ (by omega) (by omega), h _ (by omega) (by omega)]
  exact hE a c ha hc
theorem zRh_eq {m m' : Nat → Int32} {β r h d : Nat} (e : ∀ k, β ≤ k → k < β + 3 → m' k = m k) (hh : zRh m β r h d) : zRh m' β r h d := by
  unfold zRh
  rw [e β (by omega) (by omega), e _ (by omega) (by omega), e _ (by omega) (by omega)]
  exact hh
theorem zRg_eq {m m' : Nat → Int32} {A : Nat} {s : zSt} (e : ∀ k, A ≤ k → k < A + 5 → m' k = m k) (hh : zRg m A s) : zRg m' A s := by
  unfold zRg
  rw [e A (by omega) (by omega), e _ (by omega) (by omega), e _ (by omega) (by omega), e _ (by omega) (by omega), e _ (by omega) (by omega)]
  exact hh
theorem zRb_eq {m m' : Nat → Int32} {β r h d : Nat} {O : zMe} {σ : zFo} (e : ∀ k, β ≤ k → k < β + 1068 → m' k = m k) (h2 : σ.1 ≤ 200) (hb : zRb m β r h d O σ) : zRb m' β r h d O σ := by
  obtain ⟨b1, b2, b3, b4, b5⟩ := hb
  refine ⟨zRh_eq (fun k _ _ => e k (by omega) (by omega)) b1, by rw [e _ (by omega) (by omega)]; exact b2, zRE_eq (fun k _ _ => e k (by omega) (by omega)) b3, zRE_eq (fun k _ _ => e k (by omega) (by omega)) b4, fun k hk => zRg_eq (fun j _ _ => e j (by omega) (by omega)) (b5 k hk)⟩
theorem zRb_fr {m m' : Nat → Int32} {β C r h d : Nat} {O : zMe} {σ : zFo} (e : zfr C m m') (hd : β + 1068 ≤ C ∨ C + 1068 ≤ β) (h2 : σ.1 ≤ 200) (hb : zRb m β r h d O σ) : zRb m' β r h d O σ := zRb_eq (fun k _ _ => e k (by omega)) h2 hb
theorem zln_b {β l q : Nat} {c : Bool} (hl : l < 4) (hq : q < 4) : β + 4 ≤ zln β c l q ∧ zln β c l q + 1 < β + 36 := by
  unfold zln
  cases c <;> simp only [cond_true, cond_false] <;> omega
theorem zln_ne {β l q i x : Nat} {c : Bool} (hl : l < 4) (hq : q < 4) (hi : i < 4) (hx : x < 4) (h : ¬ (l = i ∧ q = x)) : zln β c l q ≠ zln β c i x ∧ zln β c l q ≠ zln β c i x + 1 ∧ zln β c l q + 1 ≠ zln β c i x := by
  unfold zln
  cases c <;> simp only [cond_true, cond_false] <;> omega
theorem zRE_l {m : Nat → Int32} {β : Nat} {E : zMe} (hE : zRE m (β + 4) E) (c : Bool) {l q : Nat} (hl : l < 4) (hq : q < 4) : m (zln β c l q) = (zlg c E l q).1 ∧ m (zln β c l q + 1) = (zlg c E l q).2 := by
  cases c
  · exact hE l q hl hq
  · exact hE q l hq hl
theorem zRE_of {m : Nat → Int32} {β : Nat} {E : zMe} (c : Bool) (h : ∀ l q, l < 4 → q < 4 → m (zln β c l q) = (zlg c E l q).1 ∧ m (zln β c l q + 1) = (zlg c E l q).2) : zRE m (β + 4) E := by
  cases c
  · exact fun a b ha hb => h a b ha hb
  · exact fun a b ha hb => h b a hb ha
theorem zplc_le {r h d : Nat} (hs : zsh r h d) (c : Bool) : zplc h d c ≤ 4 := by
  obtain ⟨_, _, h1, _, h2⟩ := hs
  cases c <;> assumption
theorem zll_le {r h d : Nat} (hs : zsh r h d) (c : Bool) : zll h d c ≤ 4 := by
  obtain ⟨_, _, h1, _, h2⟩ := hs
  cases c <;> assumption
/-- the places that a step has done -/
theorem zapL_lt {r n : Nat} {E : zMe} {s : zSt} {l q : Nat} (h : q < n) : zapL r n E s l q = zapL r (q + 1) E s l q := by
  unfold zapL; rw [if_pos h, if_pos (show q < q + 1 by omega)]
theorem zapL_ge {r n : Nat} {E : zMe} {s : zSt} {l q : Nat} (h : ¬ q < n) : zapL r n E s l q = zlg (zkc s) E l q := by
  unfold zapL; rw [if_neg h]
theorem zapL_i {r n : Nat} {E : zMe} {s : zSt} {q : Nat} {v : zE2} (h : q < n) (e : zap1 r E s q = some v) : zapL r n E s s.2.1 q = v := by
  unfold zapL; rw [if_pos h, if_pos rfl, e]; rfl
theorem zapL_o {r n : Nat} {E : zMe} {s : zSt} {l q : Nat} (h : l ≠ s.2.1) (h0 : s.1 % 3 ≠ 0 ∨ l ≠ s.2.2.1) : zapL r n E s l q = zlg (zkc s) E l q := by
  unfold zapL
  rw [if_neg h, if_neg (show ¬ (s.1 % 3 = 0 ∧ l = s.2.2.1) by omega)]
  split <;> rfl
theorem zapL_j {r n : Nat} {E : zMe} {s : zSt} {q : Nat} (hq : q < n) (h : s.2.2.1 ≠ s.2.1) (h0 : s.1 % 3 = 0) : zapL r n E s s.2.2.1 q = zlg (zkc s) E s.2.1 q := by
  unfold zapL
  rw [if_pos hq, if_neg h, if_pos ⟨h0, rfl⟩]
/-- places that are done, and that aren't yet: what the loop of applies keeps -/
def zIV (m0 m : Nat → Int32) (β r : Nat) (E : zMe) (s : zSt) (b0 bad : Bool) (x : Nat) : Prop := (∀ k, (k < β + 4 ∨ β + 36 ≤ k) → m k = m0 k) ∧ (∀ l q, l < 4 → q < 4 → x ≤ q → m (zln β (zkc s) l q) = (zlg (zkc s) E l q).1 ∧ m (zln β (zkc s) l q + 1) = (zlg (zkc s) E l q).2) ∧
  (bad = false → b0 = false ∧ (∀ k, k < x → (zap1 r E s k).isSome = true) ∧ ∀ l q, l < 4 → q < x → m (zln β (zkc s) l q) = (zapL r (q + 1) E s l q).1 ∧ m (zln β (zkc s) l q + 1) = (zapL r (q + 1) E s l q).2) ∧ (bad = true → b0 = true ∨ ∃ k, k < x ∧ zap1 r E s k = none)
theorem zIV_sum {m0 m : Nat → Int32} {β r x : Nat} {E : zMe} {s : zSt} {b0 bad : Bool} (hi : s.2.1 < 4) (hx : x < 4) (h0 : s.1 % 3 ≠ 0) (hv : zIV m0 m β r E s b0 bad x) : zIV m0 (va_up (va_up m (zln β (zkc s) s.2.1 x) (zres bad (zap1 r E s x)).2.1) (zln β (zkc s) s.2.1 x + 1) (zres bad (zap1 r E s x)).2.2) β r E s b0 (zres bad (zap1 r E s x)).1 (x + 1) := by
  obtain ⟨v1, v2, v3, v4⟩ := hv
  have hb := zln_b (β := β) (c := zkc s) hi hx
  refine ⟨fun k hk => ?_, fun l q hl hq hxq => ?_, fun hbad => ?_, fun hbad => ?_⟩
  · rw [zu2_n (by omega) (by omega)]; exact v1 k hk
  · have hn := zln_ne (β := β) (c := zkc s) hl hq hi hx (by omega)
    rw [zu2_n hn.1 hn.2.1, zu2_n hn.2.2 (by omega)]
    exact v2 l q hl hq (by omega)
  · cases hbd : bad with
    | true => rw [hbd] at hbad; cases hbad
    | false =>
      rw [hbd] at hbad
      cases he : zap1 r E s x with
      | none => rw [he] at hbad; cases hbad
      | some v =>
        obtain ⟨u1, u2, u3⟩ := v3 hbd
        refine ⟨u1, fun k hk => ?_, fun l q hl hq => ?_⟩
        · by_cases hk2 : k = x
          · subst hk2; rw [he]; rfl
          · exact u2 k (by omega)
        · by_cases hlq : l = s.2.1 ∧ q = x
          · obtain ⟨rfl, rfl⟩ := hlq
            rw [zu2_0, zu2_1, zapL_i (Nat.lt_succ_self _) he]
            exact ⟨rfl, rfl⟩
          · have hn := zln_ne (β := β) (c := zkc s) hl (show q < 4 by omega) hi hx hlq
            rw [zu2_n hn.1 hn.2.1, zu2_n hn.2.2 (by omega)]
            by_cases hqx : q < x
            · exact u3 l q hl hqx
            · rw [zapL_o (by omega) (Or.inl h0)]
              exact v2 l q hl (by omega) (by omega)
  · cases hbd : bad with
    | true =>
      rcases v4 hbd with h | ⟨k, hk, e⟩
      · exact Or.inl h
      · exact Or.inr ⟨k, by omega, e⟩
    | false =>
      rw [hbd] at hbad
      cases he : zap1 r E s x with
      | none => exact Or.inr ⟨x, by omega, he⟩
      | some v => rw [he] at hbad; cases hbad
theorem zIV_swap {m0 m : Nat → Int32} {β r x : Nat} {E : zMe} {s : zSt} {b0 bad : Bool} (hi : s.2.1 < 4) (hj : s.2.2.1 < 4) (hij : s.2.2.1 ≠ s.2.1) (hx : x < 4) (h0 : s.1 % 3 = 0) (hv : zIV m0 m β r E s b0 bad x) :
    zIV m0 (va_up (va_up (va_up (va_up m (zln β (zkc s) s.2.1 x) (m (zln β (zkc s) s.2.2.1 x))) (zln β (zkc s) s.2.1 x + 1) (m (zln β (zkc s) s.2.2.1 x + 1))) (zln β (zkc s) s.2.2.1 x) (m (zln β (zkc s) s.2.1 x))) (zln β (zkc s) s.2.2.1 x + 1) (m (zln β (zkc s) s.2.1 x + 1))) β r E s b0 bad (x + 1) := by
  obtain ⟨v1, v2, v3, v4⟩ := hv
  have hb := zln_b (β := β) (c := zkc s) hi hx
  have hb2 := zln_b (β := β) (c := zkc s) hj hx
  have hz := zln_ne (β := β) (c := zkc s) hi hx hj hx (by omega)
  have e1 : zap1 r E s x = some (zlg (zkc s) E s.2.2.1 x) := by unfold zap1; rw [if_pos h0]
  refine ⟨fun k hk => ?_, fun l q hl hq hxq => ?_, fun hbad => ?_, fun hbad => ?_⟩
  · rw [zu2_n (by omega) (by omega), zu2_n (by omega) (by omega)]; exact v1 k hk
  · have hn := zln_ne (β := β) (c := zkc s) hl hq hi hx (by omega)
    have hn2 := zln_ne (β := β) (c := zkc s) hl hq hj hx (by omega)
    rw [zu2_n hn2.1 hn2.2.1, zu2_n hn2.2.2 (by omega), zu2_n hn.1 hn.2.1, zu2_n hn.2.2 (by omega)]
    exact v2 l q hl hq (by omega)
  · obtain ⟨u1, u2, u3⟩ := v3 hbad
    refine ⟨u1, fun k hk => ?_, fun l q hl hq => ?_⟩
    · by_cases hk2 : k = x
      · subst hk2; rw [e1]; rfl
      · exact u2 k (by omega)
    · by_cases hlq : l = s.2.2.1 ∧ q = x
      · obtain ⟨rfl, rfl⟩ := hlq
        rw [zu2_0, zu2_1, zapL_j (Nat.lt_succ_self _) hij h0]
        exact v2 _ _ hi hx (Nat.le_refl _)
      · have hn2 := zln_ne (β := β) (c := zkc s) hl (show q < 4 by omega) hj hx hlq
        rw [zu2_n hn2.1 hn2.2.1, zu2_n hn2.2.2 (by omega)]
        by_cases hlq2 : l = s.2.1 ∧ q = x
        · obtain ⟨rfl, rfl⟩ := hlq2
          rw [zu2_0, zu2_1, zapL_i (Nat.lt_succ_self _) e1]
          exact v2 _ _ hj hx (Nat.le_refl _)
        · have hn := zln_ne (β := β) (c := zkc s) hl (show q < 4 by omega) hi hx hlq2
          rw [zu2_n hn.1 hn.2.1, zu2_n hn.2.2 (by omega)]
          by_cases hqx : q < x
          · exact u3 l q hl hqx
          · rw [zapL_o (by omega) (Or.inr (by omega))]
            exact v2 l q hl (by omega) (by omega)
  · rcases v4 hbad with h | ⟨k, hk, e⟩
    · exact Or.inl h
    · exact Or.inr ⟨k, by omega, e⟩
theorem l175 {K : zKt} {code pr pn : Int32} {J : zJt} {vf vs : Nat → Int32} {B : zBt} {w : Nat → Int64} {p : Nat × Nat} {Q : zR → zH → Prop} {β r h d what : Nat} {E : zMe} {s : zSt} {jj : Int32} {m0 : Nat → Int32} {b0 : Bool} (hsh : zsh r h d) (hB : β + 1068 ≤ 5340) (hE : zEw r h d E) (hs : zsv r h d s) (hw : what = s.1 % 3) (hj : s.1 % 3 ≠ 2 → jj = Int32.ofNat s.2.2.1)
    (H : ∀ rf' rs' pa' pb' pc' m' bad', zIV m0 m' β r E s b0 bad' (zplc h d (zkc s)) → Q (.inl none) (zh K (code, rf', rs', bad', pr, pn, J) (m', pa', pb', pc', vf, vs, B) w)) :
    ∀ (n x : Nat) (rf rs : Int32) (pa pb pc m : Nat → Int32) (bad : Bool), x + n = zplc h d (zkc s) → zIV m0 m β r E s b0 bad x →
    zW zm_175 56 [some (.ref 75), some (.int (Int32.ofNat β)), none, some (.int (Int32.ofNat s.2.1)), some (.int jj), some (.int s.2.2.2.1), some (.int s.2.2.2.2), some (.int (zbi (zkc s))), some (.int (Int32.ofNat r)), some (.int (Int32.ofNat (zplc h d (zkc s)))), some (.int (Int32.ofNat what)), some (.int (Int32.ofNat x)), none, none, none, none] [] p (zh K (code, rf, rs, bad, pr, pn, J) (m, pa, pb, pc, vf, vs, B) w) Q := by
  have hpl := zplc_le hsh (zkc s)
  have hll := zll_le hsh (zkc s)
  obtain ⟨s1, s2, s3, s4, s5, s6⟩ := hs
  intro n
  induction n with
  | zero =>
    intro x rf rs pa pb pc m bad hx hv
    have : x = zplc h d (zkc s) := by omega
    subst this
    exact b175_56 ⟨fun _ => H rf rs pa pb pc m bad hv, fun h => absurd ((zN_leI (by omega) (by omega)).mpr (Nat.le_refl _)) h⟩
  | succ n ih =>
    intro x rf rs pa pb pc m bad hx hv
    have hi4 : s.2.1 < 4 := by omega
    have bi := zln_b (β := β) (c := zkc s) hi4 (show x < 4 by omega)
    have ei := hv.2.1 s.2.1 x hi4 (by omega) (Nat.le_refl _)
    refine b175_56 ⟨fun h => absurd ((zN_leI (by omega) (by omega)).mp h) (by omega), fun _ => ?_⟩
    by_cases w2 : s.1 % 3 = 2
    · have hw2 : what = 2 := by omega
      subst hw2
      refine ⟨by decide, fun h => absurd rfl h, fun _ => ⟨fun _ => ⟨fun _ => ⟨fun _ => ⟨by omega, by omega, ?_⟩, fun h => absurd h (by decide)⟩, fun h => absurd h (by decide)⟩, fun h => absurd h (by decide)⟩⟩
      have e1 : zap1 r E s x = zplus r (0, 0) s.2.2.2 (zlg (zkc s) E s.2.1 x) := by unfold zap1; rw [if_neg (by omega), if_neg (by omega)]
      rw [ei.1, ei.2]
      refine s157 hsh.1 (zok_0 hsh.1) s5 (zlg_ok hE _ _ _) (fun pa' pb' pc' => b175_218 ⟨by omega, ?_⟩)
      have := zIV_sum hi4 (show x < 4 by omega) (by omega) hv
      rw [e1] at this
      exact ih (x + 1) _ _ _ _ _ _ _ (by omega) this
    · obtain ⟨j1, j2⟩ := s3 w2
      have hj4 : s.2.2.1 < 4 := by omega
      have bj := zln_b (β := β) (c := zkc s) hj4 (show x < 4 by omega)
      have ej := hv.2.1 s.2.2.1 x hj4 (by omega) (Nat.le_refl _)
      have hjj := hj w2
      by_cases w1 : s.1 % 3 = 1
      · have hw2 : what = 1 := by omega
        subst hw2
        refine ⟨by decide, fun _ => ⟨s.2.2.1, hjj, fun _ => ⟨fun h => absurd rfl h, fun _ => ⟨by omega, fun h => absurd rfl h, fun _ => ⟨by omega, by omega, by omega, ?_⟩⟩⟩, fun h => absurd h (by decide)⟩, fun h => absurd h (by decide)⟩
        have e1 : zap1 r E s x = zplus r (zlg (zkc s) E s.2.1 x) s.2.2.2 (zlg (zkc s) E s.2.2.1 x) := by unfold zap1; rw [if_neg (by omega), if_pos w1]
        rw [ei.1, ei.2, ej.1, ej.2]
        refine s157 hsh.1 (zlg_ok hE _ _ _) s5 (zlg_ok hE _ _ _) (fun pa' pb' pc' => b175_218 ⟨by omega, ?_⟩)
        have := zIV_sum hi4 (show x < 4 by omega) (by omega) hv
        rw [e1] at this
        exact ih (x + 1) _ _ _ _ _ _ _ (by omega) this
      · have hw2 : what = 0 := by omega
        subst hw2
        refine ⟨by decide, fun _ => ⟨s.2.2.1, hjj, fun h => absurd rfl h, fun _ => ⟨by omega, by omega, by omega, by omega, by omega, by omega, ?_⟩⟩, fun h => absurd h (by decide)⟩
        exact ih (x + 1) _ _ _ _ _ _ _ (by omega) (zIV_swap hi4 hj4 j2 (by omega) (by omega) hv)
/-- applies -/
theorem s175 {K : zKt} {code rf rs pr pn : Int32} {bad : Bool} {J : zJt} {m pa pb pc vf vs : Nat → Int32} {B : zBt} {w : Nat → Int64} {p : Nat × Nat} {Q : zR → zH → Prop} {β r h d : Nat} {E : zMe} {s : zSt} {jj : Int32} (hsh : zsh r h d) (hB : β + 1068 ≤ 5340) (hh : zRh m β r h d) (hm : zRE m (β + 4) E) (hE : zEw r h d E) (hs : zsv r h d s) (hj : s.1 % 3 ≠ 2 → jj = Int32.ofNat s.2.2.1)
    (H : ∀ rf' rs' pa' pb' pc' m' bad', (∀ k, (k < β + 4 ∨ β + 36 ≤ k) → m' k = m k) → (bad' = false → bad = false ∧ ∃ E', zap r h d E s = some E' ∧ zRE m' (β + 4) E') → (bad' = true → bad = true ∨ zap r h d E s = none) → Q (.inl none) (zh K (code, rf', rs', bad', pr, pn, J) (m', pa', pb', pc', vf, vs, B) w)) :
    zT zm_175 [.ref 75, .int (Int32.ofNat β), .int (Int32.ofNat s.1), .int (Int32.ofNat s.2.1), .int jj, .int s.2.2.2.1, .int s.2.2.2.2] p (zh K (code, rf, rs, bad, pr, pn, J) (m, pa, pb, pc, vf, vs, B) w) Q := by
  have hpl := zplc_le hsh (zkc s)
  have h6 := hs.1
  have go : zW zm_175 56 [some (.ref 75), some (.int (Int32.ofNat β)), none, some (.int (Int32.ofNat s.2.1)), some (.int jj), some (.int s.2.2.2.1), some (.int s.2.2.2.2), some (.int (zbi (zkc s))), some (.int (Int32.ofNat r)), some (.int (Int32.ofNat (zplc h d (zkc s)))), some (.int (Int32.ofNat (s.1 % 3))), some (.int (Int32.ofNat 0)), none, none, none, none] [] p (zh K (code, rf, rs, bad, pr, pn, J) (m, pa, pb, pc, vf, vs, B) w) Q := by
    refine l175 (m0 := m) (b0 := bad) (what := s.1 % 3) hsh hB hE hs rfl hj (fun rf' rs' pa' pb' pc' m' bad' hv => ?_) (zplc h d (zkc s)) 0 rf rs pa pb pc m bad (by omega) ⟨fun k _ => rfl, fun l q hl hq _ => zRE_l hm _ hl hq, fun h => ⟨h, fun k hk => by omega, fun l q _ hq => by omega⟩, fun h => Or.inl h⟩
    obtain ⟨v1, v2, v3, v4⟩ := hv
    refine H rf' rs' pa' pb' pc' m' bad' v1 (fun hb => ?_) (fun hb => ?_)
    · obtain ⟨u1, u2, u3⟩ := v3 hb
      refine ⟨u1, zapE r (zplc h d (zkc s)) E s, by unfold zap; rw [if_pos u2], ?_⟩
      refine zRE_of (zkc s) (fun l q hl hq => ?_)
      rw [zlg_E]
      by_cases hq2 : q < zplc h d (zkc s)
      · rw [zapL_lt hq2]; exact u3 l q hl hq2
      · rw [zapL_ge hq2]; exact v2 l q hl hq (by omega)
    · rcases v4 hb with h | ⟨k, hk, e⟩
      · exact Or.inl h
      · right
        unfold zap
        rw [if_neg]
        intro h
        have := h k hk
        rw [e] at this
        cases this
  have k0 : m (β + 0) = Int32.ofNat r := hh.1
  refine b175 ⟨by omega, fun h2 => ⟨by omega, by omega, ?_⟩, fun h2 => ⟨by omega, by omega, ?_⟩⟩
  · have hc : zkc s = false := zbltF (by omega)
    rw [k0, hh.2.2]
    rw [hc] at go
    exact go
  · have hc : zkc s = true := zbltT (by omega)
    rw [k0, hh.2.1]
    rw [hc] at go
    exact go
