/-! THE CLASS'S MATRICES: a matrix of the middle in the class's fields -/
def zCe (e : Nat → Int64) (E : zMe) : Prop := ∀ a c, a < 4 → c < 4 → e (a * 4 + c) = zen (E a c)
def zCh (X : zX) (r h d : Nat) : Prop := X.1 = r ∧ X.2.1 = h ∧ X.2.2.1 = d
def zCg (X : zX) (k : Nat) (s : zSt) : Prop := X.2.2.2.2.2.2.2.1 k = Int32.ofNat s.1 ∧ X.2.2.2.2.2.2.2.2.1 k = Int32.ofNat s.2.1 ∧ X.2.2.2.2.2.2.2.2.2.1 k = zsj s ∧ X.2.2.2.2.2.2.2.2.2.2 k = zen s.2.2.2
def zCX (X : zX) (r h d : Nat) (O : zMe) (σ : zFo) : Prop := zCh X r h d ∧ X.2.2.2.1 = σ.1 ∧ zCe X.2.2.2.2.1 σ.2.1 ∧ zCe X.2.2.2.2.2.1 O ∧ ∀ k, k < σ.1 → zCg X k (σ.2.2 k)
def zXs (X : zX) (e l : Nat → Int64) : zX := (X.1, X.2.1, X.2.2.1, X.2.2.2.1, e, X.2.2.2.2.2.1, l, X.2.2.2.2.2.2.2.1, X.2.2.2.2.2.2.2.2.1, X.2.2.2.2.2.2.2.2.2.1, X.2.2.2.2.2.2.2.2.2.2)
def zTo (i : Nat) (T T' : Nat → zX) : Prop := ∀ k, k ≠ i → T' k = T k
theorem zTo_r {i : Nat} {T : Nat → zX} : zTo i T T := fun _ _ => rfl
theorem zTo_t {i : Nat} {T T' T'' : Nat → zX} (h : zTo i T T') (h' : zTo i T' T'') : zTo i T T'' := fun k hk => (h' k hk).trans (h k hk)
theorem zTo_u {i : Nat} {T : Nat → zX} {X : zX} : zTo i T (va_up T i X) := fun _ hk => va_up_ne _ _ hk
theorem zCX_s {X : zX} {r h d : Nat} {O E : zMe} {σ : zFo} {e l : Nat → Int64} (hX : zCX X r h d O σ) (he : zCe e E) : zCX (zXs X e l) r h d O (σ.1, E, σ.2.2) := ⟨hX.1, hX.2.1, he, hX.2.2.2.1, hX.2.2.2.2⟩
theorem zCX_l {X : zX} {r h d : Nat} {O : zMe} {σ : zFo} {l : Nat → Int64} (hX : zCX X r h d O σ) : zCX (zXs X X.2.2.2.2.1 l) r h d O σ := ⟨hX.1, hX.2.1, hX.2.2.1, hX.2.2.2.1, hX.2.2.2.2⟩
theorem zCX_b {X : zX} {r h d : Nat} {O : zMe} {σ : zFo} (hsh : zsh r h d) (hw : zwf r h d O σ) (hX : zCX X r h d O σ) : zXb X := by
  obtain ⟨⟨_, h2, h3⟩, h4, _⟩ := hX
  refine ⟨by rw [h2]; exact hsh.2.2.1, by rw [h3]; exact hsh.2.2.2.2, by rw [h4]; exact hw.1⟩
def zla (c : Bool) (l q : Nat) : Nat := bif c then q * 4 + l else l * 4 + q
theorem zla_b {l q : Nat} {c : Bool} (hl : l < 4) (hq : q < 4) : zla c l q < 16 := by
  unfold zla; cases c <;> simp only [cond_true, cond_false] <;> omega
theorem zla_ne {l q i x : Nat} {c : Bool} (hl : l < 4) (hq : q < 4) (hi : i < 4) (hx : x < 4) (h : ¬ (l = i ∧ q = x)) : zla c l q ≠ zla c i x := by
  unfold zla; cases c <;> simp only [cond_true, cond_false] <;> omega
theorem zCe_l {e : Nat → Int64} {E : zMe} (h : zCe e E) (c : Bool) {l q : Nat} (hl : l < 4) (hq : q < 4) : e (zla c l q) = zen (zlg c E l q) := by
  cases c
  · exact h l q hl hq
  · exact h q l hq hl
theorem zCe_of {e : Nat → Int64} {E : zMe} (c : Bool) (h : ∀ l q, l < 4 → q < 4 → e (zla c l q) = zen (zlg c E l q)) : zCe e E := by
  cases c
  · exact fun a b ha hb => h a b ha hb
  · exact fun a b ha hb => h b a hb ha
theorem zxat_e {X : zX} {r h d : Nat} {E : zMe} (hX : zXb X) (hh : zCh X r h d) (he : zCe X.2.2.2.2.1 E) (hE : zEw r h d E) {a b : Nat} (ha : a < 2147483648) (hb : b < 2147483648) : zxat X (Int32.ofNat a) (Int32.ofNat b) = zen (E a b) := by
  rw [zxat_N hX ha hb]
  have h1 := hX.1
  have h2 := hX.2.1
  split
  · exact he a b (by omega) (by omega)
  · rename_i hn
    rw [hh.2.1, hh.2.2] at hn
    rw [hE.2 a b hn, zen_0]
theorem zxal_e {X : zX} {r h d : Nat} {E : zMe} (hX : zXb X) (hh : zCh X r h d) (he : zCe X.2.2.2.2.1 E) (hE : zEw r h d E) (c : Bool) {a b : Nat} (ha : a < 2147483648) (hb : b < 2147483648) : zxal X c (Int32.ofNat a) (Int32.ofNat b) = zen (zlg c E a b) := by
  unfold zxal
  cases c
  · exact zxat_e hX hh he hE ha hb
  · exact zxat_e hX hh he hE hb ha
theorem s32 {P : zPt} {T : Nat → zX} {Y : zYt} {I : zIt} {A : zAt} {w : Nat → Int64} {p : Nat × Nat} {Q : zR → zH → Prop} {i a b r h d : Nat} {v : Int64} (hi : i < 6) (hX : zXb (T i)) (hh : zCh (T i) r h d) (ha : a < h) (hb : b < d) (H : Q (.inl none) (zh (P, va_up T i (zXs (T i) (va_up (T i).2.2.2.2.1 (a * 4 + b) v) (T i).2.2.2.2.2.2.1), Y) I A w)) :
    zT zm_32 [.ref (21 + 8 * i), .int (Int32.ofNat a), .int (Int32.ofNat b), .long v] p (zh (P, T, Y) I A w) Q := by
  have h1 := hX.1
  have h2 := hX.2.1
  rw [hh.2.1] at h1
  rw [hh.2.2] at h2
  refine b32 hi ⟨fun c => ?_, fun c k1 hk1 e1 k2 hk2 e2 => ?_⟩
  · exfalso
    rw [zcell_N hX (by omega) (by omega), hh.2.1, hh.2.2, decide_eq_true ha, decide_eq_true hb] at c
    cases c
  · have e1 := zN_inj (by omega) hk1 e1
    have e2 := zN_inj (by omega) hk2 e2
    subst e1 e2
    exact ⟨by omega, H⟩
theorem s42 {P : zPt} {T : Nat → zX} {Y : zYt} {I : zIt} {A : zAt} {w : Nat → Int64} {p : Nat × Nat} {Q : zR → zH → Prop} {i l q r h d : Nat} {c : Bool} {v : Int64} (hi : i < 6) (hX : zXb (T i)) (hh : zCh (T i) r h d) (hl : l < zll h d c) (hq : q < zplc h d c) (H : Q (.inl none) (zh (P, va_up T i (zXs (T i) (va_up (T i).2.2.2.2.1 (zla c l q) v) (T i).2.2.2.2.2.2.1), Y) I A w)) :
    zT zm_42 [.ref (21 + 8 * i), .int (zbi c), .int (Int32.ofNat l), .int (Int32.ofNat q), .long v] p (zh (P, T, Y) I A w) Q := by
  refine b42 hi ⟨fun hc => ?_, fun hc => ?_⟩
  · subst hc
    exact s32 hi hX hh hl hq (b42_23 H)
  · subst hc
    exact s32 hi hX hh hq hl (b42_12 H)
theorem l40a {Y : zYt} {I : zIt} {A : zAt} {w : Nat → Int64} {p : Nat × Nat} {Q : zR → zH → Prop} {i r h d what : Nat} {X0 : zX} {T0 : Nat → zX} {E : zMe} {s : zSt} {jj : Int32} (hi : i < 6) (hsh : zsh r h d) (hX : zXb X0) (hh : zCh X0 r h d) (he : zCe X0.2.2.2.2.1 E) (hE : zEw r h d E) (hs : zsv r h d s) (hw : what = s.1 % 3) (hj : s.1 % 3 ≠ 2 → jj = Int32.ofNat s.2.2.1)
    (H1 : ∀ P' T' l', (∀ k, k < zplc h d (zkc s) → ∃ v, zap1 r E s k = some v ∧ l' k = zen v) → zTo i T0 T' → T' i = zXs X0 X0.2.2.2.2.1 l' → zW zm_40 153 [some (.ref (21 + 8 * i)), none, some (.int (Int32.ofNat s.2.1)), some (.int jj), none, none, some (.int (zbi (zkc s))), some (.int (Int32.ofNat what)), some (.int (Int32.ofNat (zplc h d (zkc s)))), some (.int (Int32.ofNat 0)), none, none, none, none] [] p (zh (P', T', Y) I A w) Q)
    (H2 : ∀ k, k < zplc h d (zkc s) → zap1 r E s k = none → ∀ P' T' l', zTo i T0 T' → T' i = zXs X0 X0.2.2.2.2.1 l' → Q (.inr 3) (zh (P', T', Y) I A w)) :
    ∀ (y x : Nat) (P : zPt) (T : Nat → zX) (l : Nat → Int64), x + y = zplc h d (zkc s) → (∀ k, k < x → ∃ v, zap1 r E s k = some v ∧ l k = zen v) → zTo i T0 T → T i = zXs X0 X0.2.2.2.2.1 l →
    zW zm_40 49 [some (.ref (21 + 8 * i)), none, some (.int (Int32.ofNat s.2.1)), some (.int jj), some (.long (zen s.2.2.2)), none, some (.int (zbi (zkc s))), some (.int (Int32.ofNat what)), some (.int (Int32.ofNat (zplc h d (zkc s)))), some (.int (Int32.ofNat x)), none, none, none, none] [] p (zh (P, T, Y) I A w) Q := by
  have hpl := zplc_le hsh (zkc s)
  have hll := zll_le hsh (zkc s)
  obtain ⟨s1, s2, s3, s4, s5, s6⟩ := hs
  intro y
  induction y with
  | zero =>
    intro x P T l hx f1 f2 f3
    have : x = zplc h d (zkc s) := by omega
    subst this
    exact b40_49 hi ⟨by omega, by omega, fun _ => H1 P T l f1 f2 f3, fun h => by omega⟩
  | succ y ih =>
    intro x P T l hx f1 f2 f3
    have hXT : zXb (T i) := by rw [f3]; exact hX
    have e1 : (T i).1 = r := by rw [f3]; exact hh.1
    have exl : ∀ {q : Nat}, q < 2147483648 → zxal (T i) (zkc s) (Int32.ofNat q) (Int32.ofNat x) = zen (zlg (zkc s) E q x) := fun hq => by rw [f3]; exact zxal_e (X := zXs X0 X0.2.2.2.2.1 l) hX hh he hE _ hq (by omega)
    have next : ∀ {v : zE2} (P' : zPt), zap1 r E s x = some v → zW zm_40 49 [some (.ref (21 + 8 * i)), none, some (.int (Int32.ofNat s.2.1)), some (.int jj), some (.long (zen s.2.2.2)), none, some (.int (zbi (zkc s))), some (.int (Int32.ofNat what)), some (.int (Int32.ofNat (zplc h d (zkc s)))), some (.int (Int32.ofNat (x + 1))), none, none, none, none] [] p (zh (P', (va_up T i (zXs (T i) (T i).2.2.2.2.1 (va_up (T i).2.2.2.2.2.2.1 x (zen v)))), Y) I A w) Q := by
      intro v P' hv
      refine ih (x + 1) P' _ (va_up l x (zen v)) (by omega) (fun k hk => ?_) (zTo_t f2 zTo_u) (by rw [va_up_self, f3]; rfl)
      by_cases hkx : k = x
      · subst hkx; exact ⟨v, hv, by rw [va_up_self]⟩
      · obtain ⟨u, hu1, hu2⟩ := f1 k (by omega)
        exact ⟨u, hu1, by rw [va_up_ne _ _ hkx]; exact hu2⟩
    refine b40_49 hi ⟨by omega, by omega, fun h => by omega, fun _ => ⟨hXT, hXT, by omega, ?_⟩⟩
    by_cases w2 : s.1 % 3 = 2
    · have hw2 : what = 2 := by omega
      subst hw2
      refine ⟨fun _ => ⟨fun h => absurd rfl h, fun _ => ?_⟩, fun h => absurd h (by decide)⟩
      have e2 : zap1 r E s x = zplus r (0, 0) s.2.2.2 (zlg (zkc s) E s.2.1 x) := by unfold zap1; rw [if_neg (by omega), if_neg (by omega)]
      rw [e1, exl (by omega), ← zen_0]
      refine c_plus hsh.1 (zok_0 hsh.1) s5 (zlg_ok hE _ _ _) (fun v ev P' => b40_131 hi ⟨by omega, next P' (e2.trans ev)⟩) (fun ev P' => H2 x (by omega) (e2.trans ev) P' T l f2 f3)
    · obtain ⟨j1, j2⟩ := s3 w2
      have hjj := hj w2
      by_cases w1 : s.1 % 3 = 1
      · have hw2 : what = 1 := by omega
        subst hw2
        refine ⟨fun h => absurd rfl h, fun _ => ?_⟩
        have e2 : zap1 r E s x = zplus r (zlg (zkc s) E s.2.1 x) s.2.2.2 (zlg (zkc s) E s.2.2.1 x) := by unfold zap1; rw [if_neg (by omega), if_pos w1]
        rw [e1, hjj, exl (by omega), exl (by omega), ← hjj]
        refine c_plus hsh.1 (zlg_ok hE _ _ _) s5 (zlg_ok hE _ _ _) (fun v ev P' => b40_103 hi ⟨by omega, next P' (e2.trans ev)⟩) (fun ev P' => H2 x (by omega) (e2.trans ev) P' T l f2 f3)
      · have hw2 : what = 0 := by omega
        subst hw2
        refine ⟨fun _ => ⟨fun _ => ⟨by omega, ?_⟩, fun h => absurd h (by decide)⟩, fun h => absurd h (by decide)⟩
        have e2 : zap1 r E s x = some (zlg (zkc s) E s.2.2.1 x) := by unfold zap1; rw [if_pos (by omega)]
        have := next P e2
        rw [hjj, exl (by omega), ← hjj]
        exact this
theorem zput1 {r x : Nat} {E : zMe} {s : zSt} {e : Nat → Int64} {v : zE2} (hi : s.2.1 < 4) (hx : x < 4) (h0 : s.1 % 3 ≠ 0) (hv : zap1 r E s x = some v) (he : zCe e (zapE r x E s)) : zCe (va_up e (zla (zkc s) s.2.1 x) (zen v)) (zapE r (x + 1) E s) := by
  refine zCe_of (zkc s) (fun l q hl hq => ?_)
  rw [zlg_E]
  by_cases hlq : l = s.2.1 ∧ q = x
  · obtain ⟨rfl, rfl⟩ := hlq
    rw [va_up_self, zapL_i (Nat.lt_succ_self _) hv]
  · rw [va_up_ne _ _ (zla_ne hl hq hi hx hlq), zCe_l he _ hl hq, zlg_E]
    by_cases hqx : q < x
    · rw [zapL_lt hqx, zapL_lt (show q < x + 1 by omega)]
    · rw [zapL_ge hqx]
      by_cases hq2 : q < x + 1
      · rw [zapL_o (by omega) (Or.inl h0)]
      · rw [zapL_ge hq2]
theorem zput0 {r x : Nat} {E : zMe} {s : zSt} {e : Nat → Int64} {v : zE2} (hi : s.2.1 < 4) (hj : s.2.2.1 < 4) (hij : s.2.2.1 ≠ s.2.1) (hx : x < 4) (h0 : s.1 % 3 = 0) (hv : zap1 r E s x = some v) (he : zCe e (zapE r x E s)) :
    zCe (va_up (va_up e (zla (zkc s) s.2.2.1 x) (zen (zlg (zkc s) E s.2.1 x))) (zla (zkc s) s.2.1 x) (zen v)) (zapE r (x + 1) E s) := by
  refine zCe_of (zkc s) (fun l q hl hq => ?_)
  rw [zlg_E]
  by_cases hlq : l = s.2.1 ∧ q = x
  · obtain ⟨rfl, rfl⟩ := hlq
    rw [va_up_self, zapL_i (Nat.lt_succ_self _) hv]
  · rw [va_up_ne _ _ (zla_ne hl hq hi hx hlq)]
    by_cases hlq2 : l = s.2.2.1 ∧ q = x
    · obtain ⟨rfl, rfl⟩ := hlq2
      rw [va_up_self, zapL_j (Nat.lt_succ_self _) hij h0]
    · rw [va_up_ne _ _ (zla_ne hl hq hj hx hlq2), zCe_l he _ hl hq, zlg_E]
      by_cases hqx : q < x
      · rw [zapL_lt hqx, zapL_lt (show q < x + 1 by omega)]
      · rw [zapL_ge hqx]
        by_cases hq2 : q < x + 1
        · rw [zapL_o (by omega) (Or.inr (by omega))]
        · rw [zapL_ge hq2]
theorem l40b {P : zPt} {Y : zYt} {I : zIt} {A : zAt} {w : Nat → Int64} {p : Nat × Nat} {Q : zR → zH → Prop} {i r h d what : Nat} {X0 : zX} {T0 : Nat → zX} {E : zMe} {s : zSt} {jj : Int32} {l : Nat → Int64} (hi : i < 6) (hsh : zsh r h d) (hX : zXb X0) (hh : zCh X0 r h d) (hE : zEw r h d E) (hs : zsv r h d s) (hw : what = s.1 % 3) (hj : s.1 % 3 ≠ 2 → jj = Int32.ofNat s.2.2.1) (hl : ∀ k, k < zplc h d (zkc s) → ∃ v, zap1 r E s k = some v ∧ l k = zen v)
    (H : ∀ T' e', zTo i T0 T' → T' i = zXs X0 e' l → zCe e' (zapE r (zplc h d (zkc s)) E s) → Q (.inl none) (zh (P, T', Y) I A w)) :
    ∀ (y x : Nat) (T : Nat → zX) (e : Nat → Int64), x + y = zplc h d (zkc s) → zTo i T0 T → T i = zXs X0 e l → zCe e (zapE r x E s) →
    zW zm_40 153 [some (.ref (21 + 8 * i)), none, some (.int (Int32.ofNat s.2.1)), some (.int jj), none, none, some (.int (zbi (zkc s))), some (.int (Int32.ofNat what)), some (.int (Int32.ofNat (zplc h d (zkc s)))), some (.int (Int32.ofNat x)), none, none, none, none] [] p (zh (P, T, Y) I A w) Q := by
  have hpl := zplc_le hsh (zkc s)
  have hll := zll_le hsh (zkc s)
  have hs' := hs
  obtain ⟨s1, s2, s3, s4, s5, s6⟩ := hs
  intro y
  induction y with
  | zero =>
    intro x T e hx f2 f3 f4
    have : x = zplc h d (zkc s) := by omega
    subst this
    exact b40_153 hi ⟨by omega, by omega, fun _ => H T e f2 f3 f4, fun h => by omega⟩
  | succ y ih =>
    intro x T e hx f2 f3 f4
    have hXT : zXb (T i) := by rw [f3]; exact hX
    have hhT : zCh (T i) r h d := by rw [f3]; exact hh
    obtain ⟨v, hv1, hv2⟩ := hl x (by omega)
    have hlx : (T i).2.2.2.2.2.2.1 x = zen v := by rw [f3]; exact hv2
    have heT : (T i).2.2.2.2.1 = e := by rw [f3]; rfl
    refine b40_153 hi ⟨by omega, by omega, fun h => by omega, fun _ => ⟨by omega, fun hn => ⟨by omega, ?_⟩, fun h0 => ⟨hXT, ?_⟩⟩⟩
    · rw [hlx]
      refine s42 hi hXT hhT s2 (by omega) (b40_199 ?_)
      refine ih (x + 1) _ (va_up e (zla (zkc s) s.2.1 x) (zen v)) (by omega) (zTo_t f2 zTo_u) (by rw [va_up_self, heT, f3]; rfl) (zput1 (by omega) (by omega) (by omega) hv1 f4)
    · obtain ⟨j1, j2⟩ := s3 (by omega)
      have hjj := hj (by omega)
      have exl : zxal (T i) (zkc s) (Int32.ofNat s.2.1) (Int32.ofNat x) = zen (zlg (zkc s) E s.2.1 x) := by
        rw [zxal_e hXT hhT (by rw [heT]; exact f4) (zapE_w hsh.1 hE hs' (by omega)) _ (by omega) (by omega), zlg_E, zapL_ge (by omega)]
      rw [exl, hjj]
      refine s42 hi hXT hhT j1 (by omega) (b40_183 hi ⟨by omega, ?_⟩)
      rw [va_up_self]
      have hXT2 : zXb (zXs (T i) (va_up (T i).2.2.2.2.1 (zla (zkc s) s.2.2.1 x) (zen (zlg (zkc s) E s.2.1 x))) (T i).2.2.2.2.2.2.1) := hXT
      rw [show (zXs (T i) (va_up (T i).2.2.2.2.1 (zla (zkc s) s.2.2.1 x) (zen (zlg (zkc s) E s.2.1 x))) (T i).2.2.2.2.2.2.1).2.2.2.2.2.2.1 x = zen v from hlx]
      refine s42 hi (by rw [va_up_self]; exact hXT) (by rw [va_up_self]; exact hhT) s2 (by omega) (b40_199 ?_)
      rw [← hjj]
      refine ih (x + 1) _ (va_up (va_up e (zla (zkc s) s.2.2.1 x) (zen (zlg (zkc s) E s.2.1 x))) (zla (zkc s) s.2.1 x) (zen v)) (by omega) (zTo_t (zTo_t f2 zTo_u) zTo_u) ?_ (zput0 (by omega) (by omega) j2 (by omega) (by omega) hv1 f4)
      rw [va_up_self, va_up_self, heT, f3]
      rfl
/-- apply -/
theorem s40 {P : zPt} {T : Nat → zX} {Y : zYt} {I : zIt} {A : zAt} {w : Nat → Int64} {p : Nat × Nat} {Q : zR → zH → Prop} {i r h d : Nat} {E : zMe} {s : zSt} {jj : Int32} (hi : i < 6) (hsh : zsh r h d) (hX : zXb (T i)) (hh : zCh (T i) r h d) (he : zCe (T i).2.2.2.2.1 E) (hE : zEw r h d E) (hs : zsv r h d s) (hj : s.1 % 3 ≠ 2 → jj = Int32.ofNat s.2.2.1)
    (H1 : ∀ E', zap r h d E s = some E' → ∀ P' T' e' l', zTo i T T' → T' i = zXs (T i) e' l' → zCe e' E' → Q (.inl none) (zh (P', T', Y) I A w))
    (H2 : zap r h d E s = none → ∀ P' T' l', zTo i T T' → T' i = zXs (T i) (T i).2.2.2.2.1 l' → Q (.inr 3) (zh (P', T', Y) I A w)) :
    zT zm_40 [.ref (21 + 8 * i), .int (Int32.ofNat s.1), .int (Int32.ofNat s.2.1), .int jj, .long (zen s.2.2.2)] p (zh (P, T, Y) I A w) Q := by
  have hpl := zplc_le hsh (zkc s)
  have h6 := hs.1
  have hX1 := hX.1
  have hX2 := hX.2.1
  have go : zW zm_40 49 [some (.ref (21 + 8 * i)), none, some (.int (Int32.ofNat s.2.1)), some (.int jj), some (.long (zen s.2.2.2)), none, some (.int (zbi (zkc s))), some (.int (Int32.ofNat (s.1 % 3))), some (.int (Int32.ofNat (zplc h d (zkc s)))), some (.int (Int32.ofNat 0)), none, none, none, none] [] p (zh (P, T, Y) I A w) Q := by
    refine l40a (T0 := T) hi hsh hX hh he hE hs rfl hj (fun P' T' l' f1 f2 f3 => ?_) (fun k hk ek P' T' l' f2 f3 => H2 ?_ P' T' l' f2 f3) (zplc h d (zkc s)) 0 P T (T i).2.2.2.2.2.2.1 (by omega) (fun k hk => by omega) zTo_r rfl
    · refine l40b (P := P') (T0 := T) hi hsh hX hh hE hs rfl hj f1 (fun T'' e' g1 g2 g3 => H1 (zapE r (zplc h d (zkc s)) E s) ?_ P' T'' e' l' g1 g2 g3) (zplc h d (zkc s)) 0 T' (T i).2.2.2.2.1 (by omega) f2 f3 ?_
      · unfold zap
        rw [if_pos (fun k hk => by obtain ⟨v, hv, _⟩ := f1 k hk; rw [hv]; rfl)]
      · refine zCe_of (zkc s) (fun l q hl hq => ?_)
        rw [zlg_E, zapL_ge (by omega)]
        exact zCe_l he _ hl hq
    · unfold zap
      rw [if_neg]
      intro hall
      have := hall k hk
      rw [ek] at this
      cases this
  refine b40 hi ⟨by omega, fun h3 => ⟨?_, by omega, ?_⟩, fun h3 => ⟨h3, ?_, by omega, ?_⟩⟩
  · show (T i).2.2.1 < 2147483648; omega
  · have hc : zkc s = false := zbltF (by omega)
    rw [hc, show s.1 % 3 = s.1 by omega] at go
    rw [show Nat.min (zlns (T i) true) 4 = zplc h d false by show Nat.min (T i).2.2.1 4 = d; rw [hh.2.2]; exact Nat.min_eq_left (by rw [hc] at hpl; exact hpl)]
    exact go
  · show (T i).2.1 < 2147483648; omega
  · have hc : zkc s = true := zbltT (by omega)
    rw [hc, show s.1 % 3 = s.1 - 3 by omega] at go
    rw [show Nat.min (zlns (T i) false) 4 = zplc h d true by show Nat.min (T i).2.1 4 = h; rw [hh.2.1]; exact Nat.min_eq_left (by rw [hc] at hpl; exact hpl)]
    exact go
/-- perform -/
theorem s39 {P : zPt} {T : Nat → zX} {Y : zYt} {I : zIt} {A : zAt} {w : Nat → Int64} {p : Nat × Nat} {Q : zR → zH → Prop} {i r h d : Nat} {O : zMe} {σ : zFo} {s : zSt} {kk tt jj : Int32} (hi : i < 6) (hsh : zsh r h d) (hX : zCX (T i) r h d O σ) (hw : zwf r h d O σ) (hs : zsv r h d s) (hk : kk = Int32.ofNat s.1) (ht : tt = Int32.ofNat s.2.1) (hj : jj = zsj s)
    (H1 : ∀ τ, zdo r h d s σ = some τ → ∀ P' T', zTo i T T' → zCX (T' i) r h d O τ → Q (.inl none) (zh (P', T', Y) I A w))
    (H2 : zdo r h d s σ = none → ∀ P' T', zTo i T T' → zCX (T' i) r h d O σ → Q (.inr 3) (zh (P', T', Y) I A w)) :
    zT zm_39 [.ref (21 + 8 * i), .int kk, .int tt, .int jj, .long (zen s.2.2.2)] p (zh (P, T, Y) I A w) Q := by
  subst hk ht hj
  have hc := hw.1
  have hXb := zCX_b hsh hw hX
  have ec := hX.2.1
  refine b39 hi ⟨by omega, fun hlt => ?_, fun hge => ?_⟩
  · have h200 : σ.1 ≠ 200 := by omega
    refine s40 hi hsh hXb hX.1 hX.2.2.1 hw.2.1 hs (fun h => zsj_n h) (fun E' eE P' T' e' l' f1 f2 f3 => b39_29 hi ⟨?_, ?_⟩) (fun eE P' T' l' f1 f2 => ?_)
    · rw [f2]; exact hlt
    · refine H1 (σ.1 + 1, E', va_up σ.2.2 σ.1 s) (by unfold zdo; rw [if_neg h200, eE]) P' _ (zTo_t f1 zTo_u) ?_
      rw [va_up_self, f2]
      refine ⟨hX.1, congrArg (· + 1) ec, f3, hX.2.2.2.1, fun k hk2 => ?_⟩
      have hk2 : k < σ.1 + 1 := hk2
      show zCg _ k (va_up σ.2.2 σ.1 s k)
      have ec2 : (zXs (T i) e' l').2.2.2.1 = σ.1 := ec
      unfold zCg
      dsimp only
      rw [ec2]
      by_cases hk3 : k = σ.1
      · subst hk3
        rw [va_up_self, va_up_self, va_up_self, va_up_self, va_up_self]
        exact ⟨rfl, rfl, rfl, rfl⟩
      · rw [va_up_ne _ _ hk3, va_up_ne _ _ hk3, va_up_ne _ _ hk3, va_up_ne _ _ hk3, va_up_ne _ _ hk3]
        exact hX.2.2.2.2 k (by omega)
    · refine H2 (by unfold zdo; rw [if_neg h200, eE]) P' T' f1 ?_
      rw [f2]
      exact zCX_l hX
  · exact H2 (by unfold zdo; rw [if_pos (by omega)]) P T zTo_r hX
