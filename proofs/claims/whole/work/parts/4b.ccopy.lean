/-! THE CLASS'S MATRICES: copies, logs, replay -/
theorem zcpy {α : Type} {F G : Nat → α} {n k : Nat} (h : k < n) : va_cpy F G 0 0 n k = F k := by
  unfold va_cpy
  rw [if_pos (by omega), Nat.zero_add, Nat.sub_zero]
theorem zCe_cpy {F G : Nat → Int64} {E : zMe} (h : zCe F E) : zCe (va_cpy F G 0 0 16) E := fun a c ha hc => by rw [zcpy (by omega)]; exact h a c ha hc
theorem s29 {P : zPt} {T : Nat → zX} {Y : zYt} {I : zIt} {A : zAt} {w : Nat → Int64} {p : Nat × Nat} {Q : zR → zH → Prop} {i r h d : Nat} {E : zMe} (hi : i < 6) (hh : zCh (T i) r h d) (he : zCe (T i).2.2.2.2.1 E) (H : ∀ T', zTo i T T' → (∀ g, zCX (T' i) r h d E (0, E, g)) → Q (.inl none) (zh (P, T', Y) I A w)) : zT zm_29 [.ref (21 + 8 * i)] p (zh (P, T, Y) I A w) Q := by
  refine b29 hi (H _ zTo_u (fun g => ?_))
  rw [va_up_self]
  exact ⟨hh, rfl, he, zCe_cpy he, fun k hk => absurd hk (Nat.not_lt_zero k)⟩
theorem s283 {P : zPt} {T : Nat → zX} {Y : zYt} {I : zIt} {A : zAt} {w : Nat → Int64} {p : Nat × Nat} {Q : zR → zH → Prop} {i : Nat} (hi : i < 6) (H : ∀ T' e', zTo i T T' → T' i = zXs (T i) e' (T i).2.2.2.2.2.2.1 → (∀ k, k < 16 → e' k = 0) → Q (.inl none) (zh (P, T', Y) I A w)) : zT zm_283 [.ref (21 + 8 * i + 1), .long 0] p (zh (P, T, Y) I A w) Q := by
  have l : ∀ (n x : Nat) (T' : Nat → zX) (e : Nat → Int64), x + n = 16 → zTo i T T' → T' i = zXs (T i) e (T i).2.2.2.2.2.2.1 → (∀ k, k < x → e k = 0) → zW zm_283 6 [some (.ref (21 + 8 * i + 1)), some (.long 0), none, some (.int (Int32.ofNat x)), some (.int (Int32.ofNat 16))] [] p (zh (P, T', Y) I A w) Q := by
    intro n
    induction n with
    | zero => intro x T' e hx f1 f2 f3; exact b283_6 hi ⟨by omega, by omega, fun _ => H T' e f1 f2 (fun k hk => f3 k (by omega)), fun h => by omega⟩
    | succ n ih =>
      intro x T' e hx f1 f2 f3
      refine b283_6 hi ⟨by omega, by omega, fun h => by omega, fun _ => ⟨by omega, ih (x + 1) _ (va_up e x 0) (by omega) (zTo_t f1 zTo_u) (by rw [va_up_self, f2]; rfl) (fun k hk => ?_)⟩⟩
      by_cases hkx : k = x
      · subst hkx; rw [va_up_self]
      · rw [va_up_ne _ _ hkx]; exact f3 k (by omega)
  exact b283 hi (l 16 0 T (T i).2.2.2.2.1 rfl zTo_r rfl (fun k hk => by omega))
/-- becomeZero -/
theorem s28 {P : zPt} {T : Nat → zX} {Y : zYt} {I : zIt} {A : zAt} {w : Nat → Int64} {p : Nat × Nat} {Q : zR → zH → Prop} {i r h d : Nat} (hi : i < 6) (H : ∀ T', zTo i T T' → (∀ g, zCX (T' i) r h d zZ (0, zZ, g)) → Q (.inl none) (zh (P, T', Y) I A w)) : zT zm_28 [.ref (21 + 8 * i), .ref (zra r), .int (Int32.ofNat h), .int (Int32.ofNat d)] p (zh (P, T, Y) I A w) Q := by
  refine b28 hi (s283 hi (fun T1 e1 f1 f2 f3 => b28_23 hi (s29 (r := r) (h := h) (d := d) (E := zZ) hi ?_ ?_ (fun T2 g1 g2 => b28_27 (H T2 (zTo_t (zTo_t zTo_u f1) g1) g2)))))
  · rw [f2, va_up_self]; exact ⟨rfl, rfl, rfl⟩
  · rw [f2]
    intro a c ha hc
    exact (f3 _ (by omega)).trans zen_0.symm
def zXh (X Y : zX) : zX := (Y.1, Y.2.1, Y.2.2.1, X.2.2.2.1, X.2.2.2.2.1, X.2.2.2.2.2.1, X.2.2.2.2.2.2.1, X.2.2.2.2.2.2.2.1, X.2.2.2.2.2.2.2.2.1, X.2.2.2.2.2.2.2.2.2.1, X.2.2.2.2.2.2.2.2.2.2)
theorem s34 {P : zPt} {T : Nat → zX} {Y : zYt} {I : zIt} {A : zAt} {w : Nat → Int64} {p : Nat × Nat} {Q : zR → zH → Prop} {i j : Nat} (hi : i < 6) (hj : j < 6) (H : ∀ T', zTo i T T' → T' i = zXh (T i) (T j) → Q (.inl none) (zh (P, T', Y) I A w)) : zT zm_34 [.ref (21 + 8 * i), .ref (21 + 8 * j)] p (zh (P, T, Y) I A w) Q := by
  refine b34 hj hi (H _ zTo_u ?_)
  rw [va_up_self]
  by_cases hij : j = i
  · subst hij; simp only [va_up_self]; rfl
  · have key : ∀ (f : Nat → zX) (X : zX), va_up f i X j = f j := fun f X => va_up_ne f X hij
    simp only [key]; rfl
/-- becomeUnlogged -/
theorem s36 {P : zPt} {T : Nat → zX} {Y : zYt} {I : zIt} {A : zAt} {w : Nat → Int64} {p : Nat × Nat} {Q : zR → zH → Prop} {i j r h d : Nat} {E : zMe} (hi : i < 6) (hj : j < 6) (hij : j ≠ i) (hh : zCh (T j) r h d) (he : zCe (T j).2.2.2.2.1 E) (H : ∀ T', zTo i T T' → (∀ g, zCX (T' i) r h d E (0, E, g)) → Q (.inl none) (zh (P, T', Y) I A w)) : zT zm_36 [.ref (21 + 8 * i), .ref (21 + 8 * j)] p (zh (P, T, Y) I A w) Q := by
  refine b36 hi (s34 hi hj (fun T1 f1 f2 => b36_5 hj hi (s29 (r := r) (h := h) (d := d) (E := E) hi ?_ ?_ (fun T2 g1 g2 => b36_24 (H T2 (zTo_t (zTo_t f1 zTo_u) g1) g2)))))
  · rw [va_up_self, f2]; exact hh
  · rw [va_up_self, f1 j hij]; exact zCe_cpy he
/-- become -/
theorem s33 {P : zPt} {T : Nat → zX} {Y : zYt} {I : zIt} {A : zAt} {w : Nat → Int64} {p : Nat × Nat} {Q : zR → zH → Prop} {i j r h d : Nat} {O : zMe} {σ : zFo} (hi : i < 6) (hj : j < 6) (hX : zCX (T j) r h d O σ) (hc : σ.1 ≤ 200) (H : ∀ T', zTo i T T' → zCX (T' i) r h d O σ → Q (.inl none) (zh (P, T', Y) I A w)) : zT zm_33 [.ref (21 + 8 * i), .ref (21 + 8 * j)] p (zh (P, T, Y) I A w) Q := by
  refine b33 hi (s34 hi hj (fun T1 f1 f2 => b33_5 hj hi (H _ (zTo_t f1 zTo_u) ?_)))
  rw [va_up_self]
  obtain ⟨⟨a1, a2, a3⟩, b2, b3, b4, b5⟩ := hX
  by_cases hij : j = i
  · subst hij
    have e1 : T1 j = T j := f2
    simp only [va_up_self, e1]
    exact ⟨⟨a1, a2, a3⟩, b2, zCe_cpy b3, zCe_cpy b4, fun k hk => by
      obtain ⟨c1, c2, c3, c4⟩ := b5 k hk
      unfold zCg
      dsimp only
      rw [zcpy (by omega), zcpy (by omega), zcpy (by omega), zcpy (by omega)]
      exact ⟨c1, c2, c3, c4⟩⟩
  · have key : ∀ (f : Nat → zX) (X : zX), va_up f i X j = f j := fun f X => va_up_ne f X hij
    have e1 : T1 j = T j := f1 j hij
    simp only [key, e1, f2]
    exact ⟨⟨a1, a2, a3⟩, b2, zCe_cpy b3, zCe_cpy b4, fun k hk => by
      obtain ⟨c1, c2, c3, c4⟩ := b5 k hk
      unfold zCg
      dsimp only
      rw [zcpy (by omega), zcpy (by omega), zcpy (by omega), zcpy (by omega)]
      exact ⟨c1, c2, c3, c4⟩⟩
/-- replay -/
theorem s45 {P : zPt} {T : Nat → zX} {Y : zYt} {I : zIt} {A : zAt} {w : Nat → Int64} {p : Nat × Nat} {Q : zR → zH → Prop} {i j r h d n : Nat} {O F : zMe} {σ : zFo} (hi : i < 6) (hj : j < 6) (hij : j ≠ i) (hsh : zsh r h d) (hX : zCX (T j) r h d O σ) (hw : zwf r h d O σ) (hn : n ≤ σ.1) (hF : zrp r h d O σ.2.2 n = some F) (hXi : (T i).2.2.2.1 ≤ 200)
    (H : ∀ P' T', zTo i T T' → (∀ g, zCX (T' i) r h d F (0, F, g)) → Q (.inl none) (zh (P', T', Y) I A w)) : zT zm_45 [.ref (21 + 8 * i), .ref (21 + 8 * j), .int (Int32.ofNat n)] p (zh (P, T, Y) I A w) Q := by
  have hc := hw.1
  have l : ∀ (y x : Nat) (P' : zPt) (T' : Nat → zX) (E : zMe), x + y = n → zTo i T T' → zCh (T' i) r h d → (T' i).2.2.2.1 ≤ 200 → zrp r h d O σ.2.2 x = some E → zCe (T' i).2.2.2.2.1 E → zW zm_45 22 [some (.ref (21 + 8 * i)), some (.ref (21 + 8 * j)), some (.int (Int32.ofNat n)), some (.int (Int32.ofNat x))] [] p (zh (P', T', Y) I A w) Q := by
    intro y
    induction y with
    | zero =>
      intro x P' T' E hx f1 f2 f2b f3 f4
      have : x = n := by omega
      subst this
      rw [hF] at f3
      cases f3
      exact b45_22 hi hj ⟨by omega, by omega, fun _ => s29 hi f2 f4 (fun T2 g1 g2 => b45_73 (H P' T2 (zTo_t f1 g1) g2)), fun h => by omega⟩
    | succ y ih =>
      intro x P' T' E hx f1 f2 f2b f3 f4
      have ej : T' j = T j := f1 j hij
      have hcx : (T' j).2.2.2.1 = σ.1 := by rw [ej]; exact hX.2.1
      obtain ⟨g1, g2, g3, g4⟩ := hX.2.2.2.2 x (by omega)
      have hXb : zXb (T' i) := ⟨by rw [f2.2.1]; exact hsh.2.2.1, by rw [f2.2.2]; exact hsh.2.2.2.2, f2b⟩
      refine b45_22 hi hj ⟨by omega, by omega, fun h => by omega, fun _ => ⟨by omega, fun h => by omega, fun _ => ⟨by omega, ?_⟩⟩⟩
      rw [ej, g1, g2, g3, g4]
      obtain ⟨G, hG⟩ := zrp_pre hF (x + 1) (by omega)
      have hG2 : zap r h d E (σ.2.2 x) = some G := by
        have := hG
        simp only [zrp, f3] at this
        exact this
      refine s40 hi hsh hXb f2 f4 (zrp_w hsh.1 hw.2.2.1 (fun k hk => hw.2.2.2.1 k (by omega)) f3) (hw.2.2.2.1 x (by omega)) (fun h => zsj_n h) (fun E' eE P2 T2 e' l' k1 k2 k3 => b45_63 ?_) (fun eE => by rw [hG2] at eE; cases eE)
      rw [hG2] at eE
      cases eE
      exact ih (x + 1) P2 T2 G (by omega) (zTo_t f1 k1) (by rw [k2]; exact f2) (by rw [k2]; exact f2b) hG (by rw [k2]; exact k3)
  refine b45 hi (s34 hi hj (fun T1 f1 f2 => b45_5 hj hi ?_))
  refine l n 0 P _ O (by omega) (zTo_t f1 zTo_u) ?_ ?_ rfl ?_
  · rw [va_up_self, f2]; exact hX.1
  · rw [va_up_self, f2]; exact hXi
  · rw [va_up_self, f1 j hij]; exact zCe_cpy hX.2.2.2.1
/-- hasRowsOf -/
theorem s47 {P : zPt} {T : Nat → zX} {Y : zYt} {I : zIt} {A : zAt} {w : Nat → Int64} {p : Nat × Nat} {Q : zR → zH → Prop} {i j n r h d h' d' : Nat} {E F : zMe} (hi : i < 6) (hj : j < 6) (hX : zXb (T i)) (hY : zXb (T j)) (hh : zCh (T i) r h d) (hh' : zCh (T j) r h' d') (he : zCe (T i).2.2.2.2.1 E) (hf : zCe (T j).2.2.2.2.1 F) (hE : zEw r h d E) (hF : zEw r h' d' F) (hn : n ≤ 4)
    (H1 : (∀ a c, a < n → c < d → E a c = F a c) → Q (.inl (some (.int 1))) (zh (P, T, Y) I A w)) (H2 : ¬ (∀ a c, a < n → c < d → E a c = F a c) → Q (.inl (some (.int 0))) (zh (P, T, Y) I A w)) : zT zm_47 [.ref (21 + 8 * i), .ref (21 + 8 * j), .int (Int32.ofNat n)] p (zh (P, T, Y) I A w) Q := by
  have hd : d ≤ 4 := by have := hX.2.1; rw [hh.2.2] at this; exact this
  have lc : ∀ (a : Nat), a < n → (∀ x, zW zm_47 2 [some (.ref (21 + 8 * i)), some (.ref (21 + 8 * j)), some (.int (Int32.ofNat n)), some (.int (Int32.ofNat (a + 1))), x] [] p (zh (P, T, Y) I A w) Q → True) → ((∀ c, c < d → E a c = F a c) → zW zm_47 2 [some (.ref (21 + 8 * i)), some (.ref (21 + 8 * j)), some (.int (Int32.ofNat n)), some (.int (Int32.ofNat (a + 1))), none] [] p (zh (P, T, Y) I A w) Q) → ∀ (y x : Nat), x + y = d → (∀ c, c < x → E a c = F a c) → zW zm_47 10 [some (.ref (21 + 8 * i)), some (.ref (21 + 8 * j)), some (.int (Int32.ofNat n)), some (.int (Int32.ofNat a)), some (.int (Int32.ofNat x))] [] p (zh (P, T, Y) I A w) Q := by
    intro a ha _ K y
    induction y with
    | zero => intro x hx hall; exact b47_10 hi hj ⟨by omega, by rw [hh.2.2]; omega, fun _ => K (fun c hc => hall c (by omega)), fun hn => by rw [hh.2.2] at hn; omega⟩
    | succ y ih =>
      intro x hx hall
      refine b47_10 hi hj ⟨by omega, by rw [hh.2.2]; omega, fun hn => by rw [hh.2.2] at hn; omega, fun _ => ⟨hX, hY, ?_⟩⟩
      rw [zxat_e hX hh he hE (by omega) (by omega), zxat_e hY hh' hf hF (by omega) (by omega)]
      refine ⟨fun h => ih (x + 1) (by omega) (fun c hc => ?_), fun h => H2 (fun hall2 => h (by rw [hall2 a x ha (by omega)]))⟩
      by_cases hcx : c = x
      · subst hcx; exact zen_inj h
      · exact hall c (by omega)
  have l : ∀ (y x : Nat), x + y = n → (∀ a c, a < x → c < d → E a c = F a c) → zW zm_47 2 [some (.ref (21 + 8 * i)), some (.ref (21 + 8 * j)), some (.int (Int32.ofNat n)), some (.int (Int32.ofNat x)), none] [] p (zh (P, T, Y) I A w) Q := by
    intro y
    induction y with
    | zero => intro x hx hall; exact b47_2 ⟨by omega, by omega, fun _ => H1 (fun a c ha hc => hall a c (by omega) hc), fun h => by omega⟩
    | succ y ih =>
      intro x hx hall
      refine b47_2 ⟨by omega, by omega, fun h => by omega, fun _ => lc x (by omega) (fun _ _ => trivial) (fun hc => ih (x + 1) (by omega) (fun a c ha hcd => ?_)) d 0 (by omega) (fun c hc => by omega)⟩
      by_cases hax : a = x
      · subst hax; exact hc c hcd
      · exact hall a c (by omega) hcd
  exact b47 (l n 0 (by omega) (fun a c ha _ => by omega))
