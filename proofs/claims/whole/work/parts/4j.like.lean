/-! SAMESPAN and AREEQUIVALENT -/
def zboth {α : Type} (S : zSs) (a0 a1 : Int32) (f : zMt → zMt → (α ⊕ Nat) × zSs) : (α ⊕ Nat) × zSs := if zslot a0 = false ∨ zslot a1 = false then (.inr 0, S) else match S (znn a0), S (znn a1) with
  | some X, some X' => f X X'
  | _, _ => (.inr 1, S)
theorem zboth_0 {α : Type} {S : zSs} {a0 a1 : Int32} {f : zMt → zMt → (α ⊕ Nat) × zSs} (c : zslot a0 = false ∨ zslot a1 = false) : zboth S a0 a1 f = (.inr 0, S) := by unfold zboth; rw [if_pos c]
theorem zboth_1 {α : Type} {S : zSs} {a0 a1 : Int32} {k0 k1 : Nat} {f : zMt → zMt → (α ⊕ Nat) × zSs} (c0 : zslot a0 = true) (c1 : zslot a1 = true) (hk0 : k0 < 3) (hk1 : k1 < 3) (e0 : a0 = Int32.ofNat k0) (e1 : a1 = Int32.ofNat k1) (e : S k0 = none ∨ S k1 = none) : zboth S a0 a1 f = (.inr 1, S) := by
  unfold zboth
  rw [if_neg (by rw [c0, c1]; decide), e0, e1, znn_o (by omega), znn_o (by omega)]
  rcases e with e | e
  · rw [e]
  · rw [e]; cases S k0 <;> rfl
theorem zboth_2 {α : Type} {S : zSs} {a0 a1 : Int32} {k0 k1 : Nat} {X X' : zMt} {f : zMt → zMt → (α ⊕ Nat) × zSs} (c0 : zslot a0 = true) (c1 : zslot a1 = true) (hk0 : k0 < 3) (hk1 : k1 < 3) (e0 : a0 = Int32.ofNat k0) (e1 : a1 = Int32.ofNat k1) (e : S k0 = some X) (e' : S k1 = some X') : zboth S a0 a1 f = f X X' := by
  unfold zboth
  rw [if_neg (by rw [c0, c1]; decide), e0, e1, znn_o (by omega), znn_o (by omega), e, e']
/-- noBoth -/
theorem s218 {K : zKt} {code rf rs pr pn : Int32} {bad : Bool} {J : zJt} {m pa pb pc vf vs : Nat → Int32} {B : zBt} {w : Nat → Int64} {p : Nat × Nat} {Q : zR → zH → Prop} {S : zSs} {a0 a1 : Int32} (hw : zSw S) (hR : zRS m S) (H0 : (zslot a0 = false ∨ zslot a1 = false) → Q (.inl (some (.int (1 : Int32)))) (zh K ((0 : Int32), rf, rs, bad, pr, pn, J) (m, pa, pb, pc, vf, vs, B) w))
    (H1 : ∀ k0 k1, k0 < 3 → k1 < 3 → a0 = Int32.ofNat k0 → a1 = Int32.ofNat k1 → zslot a0 = true → zslot a1 = true → (S k0 = none ∨ S k1 = none) → Q (.inl (some (.int (2 : Int32)))) (zh K ((0 : Int32), rf, rs, bad, pr, pn, J) (m, pa, pb, pc, vf, vs, B) w))
    (H2 : ∀ k0 k1 X X', k0 < 3 → k1 < 3 → a0 = Int32.ofNat k0 → a1 = Int32.ofNat k1 → zslot a0 = true → zslot a1 = true → S k0 = some X → S k1 = some X' → Q (.inl (some (.int (0 : Int32)))) (zh K ((0 : Int32), rf, rs, bad, pr, pn, J) (m, pa, pb, pc, vf, vs, B) w)) : zT zm_218 [.ref 75, .int a0, .int a1] p (zh K (code, rf, rs, bad, pr, pn, J) (m, pa, pb, pc, vf, vs, B) w) Q := by
  refine b218 ⟨fun c0 => H0 (Or.inl c0), fun c0 k0 hk0 e0 => ⟨fun c1 k1 hk1 e1 => ⟨by omega, fun c => ?_, fun c => ⟨by omega, fun c' => ?_, fun c' => ?_⟩⟩, fun c1 => H0 (Or.inr c1)⟩⟩
  · exact H1 k0 k1 hk0 hk1 e0 e1 c0 c1 (Or.inl (zRS_n hR hw hk0 c))
  · obtain ⟨X, e⟩ := zRS_s hR hw hk0 c
    obtain ⟨X', e'⟩ := zRS_s hR hw hk1 c'
    exact H2 k0 k1 X X' hk0 hk1 e0 e1 c0 c1 e e'
  · exact H1 k0 k1 hk0 hk1 e0 e1 c0 c1 (Or.inr (zRS_n hR hw hk1 c'))
/-- areLike -/
theorem s220 {K : zKt} {code rf rs pr pn : Int32} {bad : Bool} {J : zJt} {m pa pb pc vf vs : Nat → Int32} {B : zBt} {w : Nat → Int64} {p : Nat × Nat} {Q : zR → zH → Prop} {n : Nat} (hn : n ≤ 4) (H1 : (∀ k, k < 8 * n → m (3208 + k) = m (4276 + k)) → Q (.inl (some (.int 1))) (zh K (code, rf, rs, bad, pr, pn, J) (m, pa, pb, pc, vf, vs, B) w)) (H2 : ¬ (∀ k, k < 8 * n → m (3208 + k) = m (4276 + k)) → Q (.inl (some (.int 0))) (zh K (code, rf, rs, bad, pr, pn, J) (m, pa, pb, pc, vf, vs, B) w)) : zT zm_220 [.ref 75, .int (Int32.ofNat n)] p (zh K (code, rf, rs, bad, pr, pn, J) (m, pa, pb, pc, vf, vs, B) w) Q := by
  have lp : ∀ (t x : Nat) (b : Bool), x + t = 8 * n → (b = true ↔ ∀ k, k < x → m (3208 + k) = m (4276 + k)) → zW zm_220 4 [some (.ref 75), some (.int (Int32.ofNat n)), some (.int (zbi b)), some (.int (Int32.ofNat x))] [] p (zh K (code, rf, rs, bad, pr, pn, J) (m, pa, pb, pc, vf, vs, B) w) Q := by
    intro t
    induction t with
    | zero =>
      intro x b hx hb
      have : x = 8 * n := by omega
      subst this
      refine b220_4 ⟨by omega, by omega, fun _ => ?_, fun h => (by omega)⟩
      cases b with
      | true => exact H1 (hb.mp rfl)
      | false => exact H2 (fun h => by have := hb.mpr h; cases this)
    | succ t ih =>
      intro x b hx hb
      refine b220_4 ⟨by omega, by omega, fun h => (by omega), fun _ => ⟨fun e => ?_, fun e => ⟨by omega, by omega, fun hne => ?_, fun heq => ?_⟩⟩⟩
      · subst e
        exact ih (x + 1) false (by omega) ⟨fun h => (by cases h), fun h => hb.mpr (fun k hk => h k (by omega))⟩
      · exact ih (x + 1) false (by omega) ⟨fun h => (by cases h), fun h => absurd (h x (by omega)) hne⟩
      · refine ih (x + 1) true (by omega) ⟨fun _ k hk => ?_, fun _ => rfl⟩
        by_cases hkx : k = x
        · subst hkx; exact heq
        · exact hb.mp e k (by omega)
  exact b220 (lp (8 * n) 0 true (by omega) ⟨fun _ k hk => absurd hk (Nat.not_lt_zero k), fun _ => rfl⟩)
theorem zlike {m : Nat → Int32} {E F : zMe} {n r h h' d : Nat} (hn : n ≤ 4) (hd : d ≤ 4) (hE : zEw r h d E) (hF : zEw r h' d F) (h1 : zRE m 3208 E) (h2 : zRE m 4276 F) : (∀ k, k < 8 * n → m (3208 + k) = m (4276 + k)) ↔ ∀ a, a < n → ∀ c, c < d → E a c = F a c := by
  constructor
  · intro hall a ha c hc
    have e1 := h1 a c (by omega) (by omega)
    have e2 := h2 a c (by omega) (by omega)
    have g1 := hall (8 * a + 2 * c) (by omega)
    have g2 := hall (8 * a + 2 * c + 1) (by omega)
    refine Prod.ext ?_ ?_
    · rw [← e1.1, ← e2.1, Nat.add_assoc, Nat.add_assoc]; exact g1
    · rw [← e1.2, ← e2.2, Nat.add_assoc, Nat.add_assoc, Nat.add_assoc, Nat.add_assoc, ← Nat.add_assoc (8 * a)]; exact g2
  · intro hall k hk
    have e1 := h1 (k / 8) (k % 8 / 2) (by omega) (by omega)
    have e2 := h2 (k / 8) (k % 8 / 2) (by omega) (by omega)
    have heq : E (k / 8) (k % 8 / 2) = F (k / 8) (k % 8 / 2) := by
      by_cases hc : k % 8 / 2 < d
      · exact hall _ (by omega) _ hc
      · rw [hE.2 _ _ (by omega), hF.2 _ _ (by omega)]
    rw [heq] at e1
    by_cases hp : k % 2 = 0
    · have := e1.1.trans e2.1.symm
      rw [show 3208 + 8 * (k / 8) + 2 * (k % 8 / 2) = 3208 + k by omega, show 4276 + 8 * (k / 8) + 2 * (k % 8 / 2) = 4276 + k by omega] at this
      exact this
    · have := e1.2.trans e2.2.symm
      rw [show 3208 + 8 * (k / 8) + 2 * (k % 8 / 2) + 1 = 3208 + k by omega, show 4276 + 8 * (k / 8) + 2 * (k % 8 / 2) + 1 = 4276 + k by omega] at this
      exact this
theorem zhrm_le {r h d : Nat} : ∀ (y q ρ : Nat) (σ : zFo) (ρ' : Nat) (τ : zFo), ρ ≤ h → zhrm r h d y q ρ σ = some (ρ', τ) → ρ' ≤ h := by
  intro y
  induction y with
  | zero => intro q ρ σ ρ' τ hρ e; cases e; exact hρ
  | succ y ih =>
    intro q ρ σ ρ' τ hρ e
    simp only [zhrm] at e
    split at e
    · cases e; exact hρ
    · split at e
      · exact ih _ _ _ _ _ hρ e
      · split at e
        · cases e
        · exact ih _ _ _ _ _ (by omega) e
def zc_span (S : zSs) (a0 a1 : Int32) : (Int32 ⊕ Nat) × zSs := zboth S a0 a1 (fun X X' => if X.1 = X'.1 ∧ X.2.2.1 = X'.2.2.1 then (match zfH (zfr0 X), zfH (zfr0 X') with
  | some q, some q' => (.inl (if q.1 = q'.1 ∧ ∀ a, a < q.1 → ∀ c, c < X.2.2.1 → q.2.2.1 a c = q'.2.2.1 a c then 1 else 0), S)
  | _, _ => (.inr 3, S)) else (.inl 0, S))
theorem r_span {K : zKt} {code rf rs pr pn : Int32} {bad : Bool} {J : zJt} {m pa pb pc vf vs : Nat → Int32} {B : zBt} {w : Nat → Int64} {p : Nat × Nat} {Q : zR → zH → Prop} {S : zSs} {a0 a1 : Int32} (hw : zSw S) (hR : zRS m S) (H : ∀ m' h', zRS m' (zc_span S a0 a1).2 → zRH K J B w m' (zcd [0, 1, 3] (zc_span S a0 a1).1) h' → Q (.inl (some (.int (zrv (zc_span S a0 a1).1)))) h') : zT zm_217 [.ref 75, .int a0, .int a1] p (zh K (code, rf, rs, bad, pr, pn, J) (m, pa, pb, pc, vf, vs, B) w) Q := by
  refine b217 (s218 hw hR (fun c => b217_6 ⟨fun _ => zfin (S := S) H (zboth_0 c) m _ hR ⟨_, _, _, _, _, _, _, _, _, _, rfl⟩, fun h => absurd (by decide) h⟩) (fun k0 k1 hk0 hk1 e0 e1 c0 c1 e => b217_6 ⟨fun _ => zfin (S := S) H (zboth_1 c0 c1 hk0 hk1 e0 e1 e) m _ hR ⟨_, _, _, _, _, _, _, _, _, _, rfl⟩, fun h => absurd (by decide) h⟩) (fun k0 k1 X X' hk0 hk1 e0 e1 c0 c1 e e' => ?_))
  have hX := hw k0 X hk0 e
  have hY := hw k1 X' hk1 e'
  have hb := zRS_b hR hk0 e
  have hb' := zRS_b hR hk1 e'
  have hr1 := zrg_lt hX.1.1
  have hr2 := zrg_lt hY.1.1
  have h1 := hX.1.2.2.1
  have h2 := hX.1.2.2.2.2
  have h3 := hY.1.2.2.1
  have h4 := hY.1.2.2.2.2
  have ex := zboth_2 (f := fun X X' => if X.1 = X'.1 ∧ X.2.2.1 = X'.2.2.1 then (match zfH (zfr0 X), zfH (zfr0 X') with
    | some q, some q' => (.inl (if q.1 = q'.1 ∧ ∀ a, a < q.1 → ∀ c, c < X.2.2.1 → q.2.2.1 a c = q'.2.2.1 a c then (1 : Int32) else 0), S)
    | _, _ => (.inr 3, S)) else (.inl 0, S)) c0 c1 hk0 hk1 e0 e1 e e'
  have no : ¬ (X.1 = X'.1 ∧ X.2.2.1 = X'.2.2.1) → Q (.inl (some (.int (0 : Int32)))) (zh K ((0 : Int32), rf, rs, bad, pr, pn, J) (m, pa, pb, pc, vf, vs, B) w) := fun hn =>
    zfin (S := S) (x := .inl 0) (S' := S) H (ex.trans (if_neg hn)) m _ hR ⟨_, _, _, _, _, _, _, _, _, _, rfl⟩
  refine b217_6 ⟨fun h => absurd h (by decide), fun _ => ⟨k0, e0, k1, e1, by omega, by omega, ?_⟩⟩
  rw [show m (1068 * k0 + 0) = Int32.ofNat X.1 from hb.1.1, show m (1068 * k1 + 0) = Int32.ofNat X'.1 from hb'.1.1, hb.1.2.2, hb'.1.2.2]
  refine ⟨fun c => no (fun g => (of_decide_eq_false c) (by rw [g.1])), fun c => ⟨by omega, by omega, fun c' => ?_, fun c' => no (fun g => (of_decide_eq_false c') (by rw [g.2]))⟩⟩
  have er := zN_inj (by omega) (by omega) (of_decide_eq_true c)
  have ed := zN_inj (by omega) (by omega) (of_decide_eq_true c')
  have ex := ex.trans (if_pos ⟨er, ed⟩)
  rw [e0]
  refine s173 hk0 (fun m1 f1 f2 => b217_43 ?_)
  have hb1 := zRb_cp f2 hX.2.1 hb
  have hR1 := zRS_fr hR hw f1 (by omega)
  refine s146 (β := 3204) (by omega) hb1.1 hb1.2.2.1 (fun m2 g1 g2 => b217_50 ?_)
  have hR2 := zRS_fr hR1 hw g1 (by omega)
  refine s184 (β := 3204) (O := X.2.2.2.2.2.1) (σ := (0, X.2.2.2.2.2.1, zg0)) hX.1 (by omega) (⟨rfl, g2 zg0, zwf_0 hX.2.2.1⟩ : zGB false m2 3204 X.1 X.2.1 X.2.2.1 X.2.2.2.2.2.1 (some (0, X.2.2.2.2.2.1, zg0))) (fun ρ τ eτ rf' rs' pa' pb' pc' m3 k1' k2' => b217_57 ?_) (fun eτ rv rf' rs' pa' pb' pc' m3 k1' k2' => b217_57 ?_)
  · have eτ' : zfH (zfr0 X) = some (ρ, τ) := eτ
    obtain ⟨_, hb3, hw3⟩ := k2'
    have hR3 := zRS_fr hR2 hw k1' (by omega)
    have hρ : ρ ≤ X.2.1 := zhrm_le _ _ _ _ _ _ (Nat.zero_le _) eτ
    rw [e1, z1068]
    refine s154 (β := 1068 * k1) (C := 4272) (by omega) (by omega) (by omega) (fun m4 q1 q2 => b217_71 ?_)
    have hR4 := zRS_fr hR3 hw q1 (by omega)
    have hb4 := zRb_cp q2 hY.2.1 (zRS_b hR3 hk1 e')
    have hb43 : zRb m4 3204 X.1 X.2.1 X.2.2.1 X.2.2.2.2.2.1 τ := zRb_fr q1 (by omega) hw3.1 hb3
    refine s146 (β := 4272) (by omega) hb4.1 hb4.2.2.1 (fun m5 u1 u2 => b217_78 ⟨fun _ => ?_, fun h => (by cases h)⟩)
    have hR5 := zRS_fr hR4 hw u1 (by omega)
    have hb53 : zRb m5 3204 X.1 X.2.1 X.2.2.1 X.2.2.2.2.2.1 τ := zRb_fr u1 (by omega) hw3.1 hb43
    refine s184 (β := 4272) (O := X'.2.2.2.2.2.1) (σ := (0, X'.2.2.2.2.2.1, zg0)) hY.1 (by omega) (⟨rfl, u2 zg0, zwf_0 hY.2.2.1⟩ : zGB false m5 4272 X'.1 X'.2.1 X'.2.2.1 X'.2.2.2.2.2.1 (some (0, X'.2.2.2.2.2.1, zg0))) (fun ρ' τ' eτ2 rf2 rs2 pa2 pb2 pc2 m6 v1 v2 => b217_96 ⟨fun _ => ⟨fun h => (by cases h), fun _ => ?_⟩, fun h => (by cases h)⟩) (fun eτ2 rv rf2 rs2 pa2 pb2 pc2 m6 v1 v2 => b217_96 ⟨fun h => (by cases h), fun _ => ⟨fun _ => ?_, fun h => (by cases h)⟩⟩)
    · have eτ2' : zfH (zfr0 X') = some (ρ', τ') := eτ2
      obtain ⟨_, hb6, hw6⟩ := v2
      have hR6 := zRS_fr hR5 hw v1 (by omega)
      have hb63 : zRb m6 3204 X.1 X.2.1 X.2.2.1 X.2.2.2.2.2.1 τ := zRb_fr v1 (by omega) hw3.1 hb53
      have hρ' : ρ' ≤ X'.2.1 := zhrm_le _ _ _ _ _ _ (Nat.zero_le _) eτ2
      rw [eτ', eτ2'] at ex
      have hF6 := hw6.2.1
      rw [← er, ← ed] at hF6
      have hl := zlike (n := ρ) (by omega) h2 hw3.2.1 hF6 hb63.2.2.1 hb6.2.2.1
      refine ⟨fun hne => ?_, fun heq => ?_⟩
      · exact zfin (S := S) (x := .inl 0) (S' := S) H (ex.trans (by show (Sum.inl (if ρ = ρ' ∧ _ then _ else _), S) = _; rw [if_neg (fun g => hne (by rw [g.1]))])) m6 _ hR6 ⟨_, _, _, _, _, _, _, _, _, _, rfl⟩
      · have hρρ : ρ = ρ' := zN_inj (by omega) (by omega) heq
        refine s220 (by omega) (fun hall => b217_134 (rv := true) ⟨fun h => (by cases h), fun _ => ?_⟩) (fun hall => b217_134 (rv := false) ⟨fun _ => ?_, fun h => (by cases h)⟩)
        · exact zfin (S := S) (x := .inl 1) (S' := S) H (ex.trans (by show (Sum.inl (if ρ = ρ' ∧ (∀ a, a < ρ → ∀ c, c < X.2.2.1 → τ.2.1 a c = τ'.2.1 a c) then _ else _), S) = _; rw [if_pos ⟨hρρ, hl.mp hall⟩])) m6 _ hR6 ⟨_, _, _, _, _, _, _, _, _, _, rfl⟩
        · exact zfin (S := S) (x := .inl 0) (S' := S) H (ex.trans (by show (Sum.inl (if ρ = ρ' ∧ (∀ a, a < ρ → ∀ c, c < X.2.2.1 → τ.2.1 a c = τ'.2.1 a c) then _ else _), S) = _; rw [if_neg (fun g => hall (hl.mpr g.2))])) m6 _ hR6 ⟨_, _, _, _, _, _, _, _, _, _, rfl⟩
    · rw [eτ', show zfH (zfr0 X') = none from eτ2] at ex
      exact zfin (S := S) (x := .inr 3) (S' := S) H ex m6 _ (zRS_fr hR5 hw v1 (by omega)) ⟨_, _, _, _, _, _, _, _, _, _, rfl⟩
  · rw [show zfH (zfr0 X) = none from eτ] at ex
    have hR3 := zRS_fr hR2 hw k1' (by omega)
    rw [e1, z1068]
    refine s154 (β := 1068 * k1) (C := 4272) (by omega) (by omega) (by omega) (fun m4 q1 q2 => b217_71 ?_)
    have hR4 := zRS_fr hR3 hw q1 (by omega)
    have hb4 := zRb_cp q2 hY.2.1 (zRS_b hR3 hk1 e')
    refine s146 (β := 4272) (by omega) hb4.1 hb4.2.2.1 (fun m5 u1 u2 => b217_78 ⟨fun h => (by cases h), fun _ => ⟨fun h => (by cases h), fun _ => ⟨fun _ => ?_, fun h => (by cases h)⟩⟩⟩)
    exact zfin (S := S) (x := .inr 3) (S' := S) H (ex.trans (by cases zfH (zfr0 X') <;> rfl)) m5 _ (zRS_fr hR4 hw u1 (by omega)) ⟨_, _, _, _, _, _, _, _, _, _, rfl⟩
theorem zrno_e {T : Nat → zX} {S : zSs} {k : Nat} {X : zMt} (hC : zCS T S) (hw : zSw S) (hk : k < 3) (e : S k = some X) : zrno (T k).1 = X.1 := by
  rw [(zCS_x hC hk e).1.1]
  rcases (hw k X hk e).1.1 with h | h | h | h | h | h <;> rw [h] <;> rfl
theorem k_span {P : zPt} {T : Nat → zX} {Y : zYt} {I : zIt} {A : zAt} {w : Nat → Int64} {p : Nat × Nat} {Q : zR → zH → Prop} {S : zSs} {a0 a1 : Int32} (hw : zSw S) (hC : zCS T S) (H : ∀ T' h', zCS T' (zc_span S a0 a1).2 → zCH Y I A w T' h' → Q (zRo (zc_span S a0 a1).1) h') : zT zm_128 [.ref 0, .int a0, .int a1] p (zh (P, T, Y) I A w) Q := by
  have bad0 : (zslot a0 = false ∨ zslot a1 = false) → Q (.inr 0) (zh (P, T, Y) I A w) := fun c => kfin (x := .inr 0) (S' := S) H (zboth_0 c) T _ hC ⟨P, rfl⟩
  refine b128 ⟨fun c0 k0 hk0 e0 => ⟨fun c1 k1 hk1 e1 => ⟨by have := (hC.2 k0).1; omega, ?_⟩, fun c1 => bad0 (Or.inr c1)⟩, fun c0 => bad0 (Or.inl c0)⟩
  rw [zCS_0 hC hw hk0, zCS_0 hC hw hk1]
  refine ⟨fun c => ?_, fun c => ⟨by have := (hC.2 k1).1; omega, fun c' => ?_, fun c' => ?_⟩⟩
  · exact kfin (x := .inr 1) (S' := S) H (zboth_1 c0 c1 hk0 hk1 e0 e1 (Or.inl (Option.isNone_iff_eq_none.mp c))) T _ hC ⟨P, rfl⟩
  · exact kfin (x := .inr 1) (S' := S) H (zboth_1 c0 c1 hk0 hk1 e0 e1 (Or.inr (Option.isNone_iff_eq_none.mp c'))) T _ hC ⟨P, rfl⟩
  cases e : S k0 with
  | none => rw [e] at c; cases c
  | some X =>
  cases e' : S k1 with
  | none => rw [e'] at c'; cases c'
  | some X' =>
  have hX := hw k0 X hk0 e
  have hY := hw k1 X' hk1 e'
  have hx := zCS_x hC hk0 e
  have hy := zCS_x hC hk1 e'
  have h1 := hX.1.2.2.1
  have h2 := hX.1.2.2.2.2
  have h3 := hY.1.2.2.1
  have h4 := hY.1.2.2.2.2
  have ex := zboth_2 (f := fun X X' => if X.1 = X'.1 ∧ X.2.2.1 = X'.2.2.1 then (match zfH (zfr0 X), zfH (zfr0 X') with
    | some q, some q' => (.inl (if q.1 = q'.1 ∧ ∀ a, a < q.1 → ∀ c, c < X.2.2.1 → q.2.2.1 a c = q'.2.2.1 a c then (1 : Int32) else 0), S)
    | _, _ => (.inr 3, S)) else (.inl 0, S)) c0 c1 hk0 hk1 e0 e1 e e'
  have no : ¬ (X.1 = X'.1 ∧ X.2.2.1 = X'.2.2.1) → Q (.inl (some (.int (0 : Int32)))) (zh (P, T, Y) I A w) := fun hn => kfin (x := .inl 0) (S' := S) H (ex.trans (if_neg hn)) T _ hC ⟨P, rfl⟩
  rw [zrno_e hC hw hk0 e, zrno_e hC hw hk1 e', hx.1.2.2, hy.1.2.2]
  refine ⟨fun g => no (fun q => (of_decide_eq_false g) q.1), fun g => ⟨by omega, by omega, fun ed => ?_, fun g' => no (fun q => g' q.2)⟩⟩
  have er := of_decide_eq_true g
  have ex := ex.trans (if_pos ⟨er, ed⟩)
  have wX := zwf_0 (g := zg0) hX.2.2.1
  have wY := zwf_0 (g := zg0) hY.2.2.1
  refine s36 (i := 3) (by omega) (by omega) (by omega) hx.1 hx.2.2.1 (fun T1 f1 f2 => b128_67 ?_)
  have hC1 := zCS_w hC f1 (by omega) (zCX_b hX.1 wX (f2 zg0))
  have hy1 := zCS_x hC1 hk1 e'
  refine s36 (i := 4) (by omega) (by omega) (by omega) hy1.1 hy1.2.2.1 (fun T2 g1 g2 => b128_76 ?_)
  have hC2 := zCS_w hC1 g1 (by omega) (zCX_b hY.1 wY (g2 zg0))
  have x2 : zCX (T2 3) X.1 X.2.1 X.2.2.1 X.2.2.2.2.2.1 (0, X.2.2.2.2.2.1, zg0) := by rw [g1 3 (by omega)]; exact f2 zg0
  refine s11 (i := 3) (by omega) hX.1 x2 wX (fun ρ τ eτ P3 T3 q1 q2 q3 => b128_83 ?_) (fun eτ P3 T3 q1 q2 => ?_)
  · have eτ' : zfH (zfr0 X) = some (ρ, τ) := eτ
    have hC3 := zCS_w hC2 q1 (by omega) (zCX_b hX.1 q3 q2)
    have y3 : zCX (T3 4) X'.1 X'.2.1 X'.2.2.1 X'.2.2.2.2.2.1 (0, X'.2.2.2.2.2.1, zg0) := by rw [q1 4 (by omega)]; exact g2 zg0
    have hρ : ρ ≤ X.2.1 := zhrm_le _ _ _ _ _ _ (Nat.zero_le _) eτ
    refine s11 (i := 4) (by omega) hY.1 y3 wY (fun ρ' τ' eτ2 P4 T4 u1 u2 u3 => b128_92 ?_) (fun eτ2 P4 T4 u1 u2 => ?_)
    · have eτ2' : zfH (zfr0 X') = some (ρ', τ') := eτ2
      have hρ' : ρ' ≤ X'.2.1 := zhrm_le _ _ _ _ _ _ (Nat.zero_le _) eτ2
      have hC4 := zCS_w hC3 u1 (by omega) (zCX_b hY.1 u3 u2)
      have x4 : zCX (T4 3) X.1 X.2.1 X.2.2.1 X.2.2.2.2.2.1 τ := by rw [u1 3 (by omega)]; exact q2
      rw [eτ', eτ2'] at ex
      have hF := u3.2.1
      have hh4 := u2.1
      rw [← er, ← ed] at hF hh4
      refine ⟨fun hne => ?_, fun heq => ?_⟩
      · exact kfin (x := .inl 0) (S' := S) H (ex.trans (by show (Sum.inl (if ρ = ρ' ∧ _ then _ else _), S) = _; rw [if_neg (fun g => hne (by rw [g.1]))])) T4 _ hC4 ⟨P4, rfl⟩
      · have hρρ : ρ = ρ' := zN_inj (by omega) (by omega) heq
        refine s47 (by omega) (by omega) (zCX_b hX.1 q3 x4) (zCX_b hY.1 u3 u2) x4.1 hh4 x4.2.2.1 u2.2.2.1 q3.2.1 hF (show ρ ≤ 4 by omega) (fun hall => b128_114 (rv := true) ⟨fun h => (by cases h), fun _ => ?_⟩) (fun hall => b128_114 (rv := false) ⟨fun _ => ?_, fun h => (by cases h)⟩)
        · exact kfin (x := .inl 1) (S' := S) H (ex.trans (by show (Sum.inl (if ρ = ρ' ∧ (∀ a, a < ρ → ∀ c, c < X.2.2.1 → τ.2.1 a c = τ'.2.1 a c) then _ else _), S) = _; rw [if_pos ⟨hρρ, fun a ha c hc => hall a c ha hc⟩])) T4 _ hC4 ⟨P4, rfl⟩
        · exact kfin (x := .inl 0) (S' := S) H (ex.trans (by show (Sum.inl (if ρ = ρ' ∧ (∀ a, a < ρ → ∀ c, c < X.2.2.1 → τ.2.1 a c = τ'.2.1 a c) then _ else _), S) = _; rw [if_neg (fun g => hall (fun a c ha hc => g.2 a ha c hc))])) T4 _ hC4 ⟨P4, rfl⟩
    · rw [eτ', show zfH (zfr0 X') = none from eτ2] at ex
      exact kfin (x := .inr 3) (S' := S) H ex T4 _ (zCS_w hC3 u1 (by omega) u2) ⟨P4, rfl⟩
  · rw [show zfH (zfr0 X) = none from eτ] at ex
    exact kfin (x := .inr 3) (S' := S) H (ex.trans (by cases zfH (zfr0 X') <;> rfl)) T3 _ (zCS_w hC2 q1 (by omega) q2) ⟨P3, rfl⟩
def zc_equi (S : zSs) (a0 a1 : Int32) : (Int32 ⊕ Nat) × zSs := zboth S a0 a1 (fun X X' => if X.1 = X'.1 ∧ X.2.1 = X'.2.1 ∧ X.2.2.1 = X'.2.2.1 then (match zfS (zfr0 X), zfS (zfr0 X') with
  | some q, some q' => (.inl (if ∀ a, a < X.2.1 → ∀ c, c < X.2.2.1 → q.2.2.1 a c = q'.2.2.1 a c then 1 else 0), S)
  | _, _ => (.inr 3, S)) else (.inl 0, S))
theorem k_equi {P : zPt} {T : Nat → zX} {Y : zYt} {I : zIt} {A : zAt} {w : Nat → Int64} {p : Nat × Nat} {Q : zR → zH → Prop} {S : zSs} {a0 a1 : Int32} (hw : zSw S) (hC : zCS T S) (H : ∀ T' h', zCS T' (zc_equi S a0 a1).2 → zCH Y I A w T' h' → Q (zRo (zc_equi S a0 a1).1) h') : zT zm_129 [.ref 0, .int a0, .int a1] p (zh (P, T, Y) I A w) Q := by
  have bad0 : (zslot a0 = false ∨ zslot a1 = false) → Q (.inr 0) (zh (P, T, Y) I A w) := fun c => kfin (x := .inr 0) (S' := S) H (zboth_0 c) T _ hC ⟨P, rfl⟩
  refine b129 ⟨fun c0 k0 hk0 e0 => ⟨fun c1 k1 hk1 e1 => ⟨by have := (hC.2 k0).1; omega, ?_⟩, fun c1 => bad0 (Or.inr c1)⟩, fun c0 => bad0 (Or.inl c0)⟩
  rw [zCS_0 hC hw hk0, zCS_0 hC hw hk1]
  refine ⟨fun c => ?_, fun c => ⟨by have := (hC.2 k1).1; omega, fun c' => ?_, fun c' => ?_⟩⟩
  · exact kfin (x := .inr 1) (S' := S) H (zboth_1 c0 c1 hk0 hk1 e0 e1 (Or.inl (Option.isNone_iff_eq_none.mp c))) T _ hC ⟨P, rfl⟩
  · exact kfin (x := .inr 1) (S' := S) H (zboth_1 c0 c1 hk0 hk1 e0 e1 (Or.inr (Option.isNone_iff_eq_none.mp c'))) T _ hC ⟨P, rfl⟩
  cases e : S k0 with
  | none => rw [e] at c; cases c
  | some X =>
  cases e' : S k1 with
  | none => rw [e'] at c'; cases c'
  | some X' =>
  have hX := hw k0 X hk0 e
  have hY := hw k1 X' hk1 e'
  have hx := zCS_x hC hk0 e
  have hy := zCS_x hC hk1 e'
  have h1 := hX.1.2.2.1
  have h2 := hX.1.2.2.2.2
  have h3 := hY.1.2.2.1
  have h4 := hY.1.2.2.2.2
  have ex := zboth_2 (f := fun X X' => if X.1 = X'.1 ∧ X.2.1 = X'.2.1 ∧ X.2.2.1 = X'.2.2.1 then (match zfS (zfr0 X), zfS (zfr0 X') with
    | some q, some q' => (.inl (if ∀ a, a < X.2.1 → ∀ c, c < X.2.2.1 → q.2.2.1 a c = q'.2.2.1 a c then (1 : Int32) else 0), S)
    | _, _ => (.inr 3, S)) else (.inl 0, S)) c0 c1 hk0 hk1 e0 e1 e e'
  have no : ¬ (X.1 = X'.1 ∧ X.2.1 = X'.2.1 ∧ X.2.2.1 = X'.2.2.1) → Q (.inl (some (.int (0 : Int32)))) (zh (P, T, Y) I A w) := fun hn => kfin (x := .inl 0) (S' := S) H (ex.trans (if_neg hn)) T _ hC ⟨P, rfl⟩
  rw [zrno_e hC hw hk0 e, zrno_e hC hw hk1 e', hx.1.2.2, hy.1.2.2, hx.1.2.1, hy.1.2.1]
  refine ⟨fun g => no (fun q => (of_decide_eq_false g) q.1), fun g => ⟨by omega, by omega, fun g' => no (fun q => g' q.2.1), fun eh => ⟨by omega, by omega, fun ed => ?_, fun g' => no (fun q => g' q.2.2)⟩⟩⟩
  have er := of_decide_eq_true g
  have ex := ex.trans (if_pos ⟨er, eh, ed⟩)
  have wX := zwf_0 (g := zg0) hX.2.2.1
  have wY := zwf_0 (g := zg0) hY.2.2.1
  refine s36 (i := 3) (by omega) (by omega) (by omega) hx.1 hx.2.2.1 (fun T1 f1 f2 => b129_79 ?_)
  have hC1 := zCS_w hC f1 (by omega) (zCX_b hX.1 wX (f2 zg0))
  have hy1 := zCS_x hC1 hk1 e'
  refine s36 (i := 4) (by omega) (by omega) (by omega) hy1.1 hy1.2.2.1 (fun T2 g1 g2 => b129_88 ?_)
  have hC2 := zCS_w hC1 g1 (by omega) (zCX_b hY.1 wY (g2 zg0))
  have x2 : zCX (T2 3) X.1 X.2.1 X.2.2.1 X.2.2.2.2.2.1 (0, X.2.2.2.2.2.1, zg0) := by rw [g1 3 (by omega)]; exact f2 zg0
  refine s82 (i := 3) (by omega) hX.1 x2 wX (fun ρ τ eτ P3 T3 q1 q2 q3 => b129_95 ?_) (fun eτ P3 T3 q1 q2 => ?_)
  · have eτ' : zfS (zfr0 X) = some (ρ, τ) := eτ
    have hC3 := zCS_w hC2 q1 (by omega) (zCX_b hX.1 q3 q2)
    have y3 : zCX (T3 4) X'.1 X'.2.1 X'.2.2.1 X'.2.2.2.2.2.1 (0, X'.2.2.2.2.2.1, zg0) := by rw [q1 4 (by omega)]; exact g2 zg0
    refine s82 (i := 4) (by omega) hY.1 y3 wY (fun ρ' τ' eτ2 P4 T4 u1 u2 u3 => b129_103 ?_) (fun eτ2 P4 T4 u1 u2 => ?_)
    · have eτ2' : zfS (zfr0 X') = some (ρ', τ') := eτ2
      have hC4 := zCS_w hC3 u1 (by omega) (zCX_b hY.1 u3 u2)
      have x4 : zCX (T4 3) X.1 X.2.1 X.2.2.1 X.2.2.2.2.2.1 τ := by rw [u1 3 (by omega)]; exact q2
      rw [eτ', eτ2'] at ex
      have hF := u3.2.1
      have hh4 := u2.1
      rw [← er, ← ed] at hF hh4
      rw [x4.1.2.1]
      refine s47 (by omega) (by omega) (zCX_b hX.1 q3 x4) (zCX_b hY.1 u3 u2) x4.1 hh4 x4.2.2.1 u2.2.2.1 q3.2.1 hF h1 (fun hall => b129_122 (rv := true) ?_) (fun hall => b129_122 (rv := false) ?_)
      · exact kfin (x := .inl 1) (S' := S) H (ex.trans (by show (Sum.inl (if (∀ a, a < X.2.1 → ∀ c, c < X.2.2.1 → τ.2.1 a c = τ'.2.1 a c) then _ else _), S) = _; rw [if_pos (fun a ha c hc => hall a c ha hc)])) T4 _ hC4 ⟨P4, rfl⟩
      · exact kfin (x := .inl 0) (S' := S) H (ex.trans (by show (Sum.inl (if (∀ a, a < X.2.1 → ∀ c, c < X.2.2.1 → τ.2.1 a c = τ'.2.1 a c) then _ else _), S) = _; rw [if_neg (fun g => hall (fun a c ha hc => g a ha c hc))])) T4 _ hC4 ⟨P4, rfl⟩
    · rw [eτ', show zfS (zfr0 X') = none from eτ2] at ex
      exact kfin (x := .inr 3) (S' := S) H ex T4 _ (zCS_w hC3 u1 (by omega) u2) ⟨P4, rfl⟩
  · rw [show zfS (zfr0 X) = none from eτ] at ex
    exact kfin (x := .inr 3) (S' := S) H (ex.trans (by cases zfS (zfr0 X') <;> rfl)) T3 _ (zCS_w hC2 q1 (by omega) q2) ⟨P3, rfl⟩
theorem zequ_r {X X' : zMt} (hX : zmw X) (hY : zmw X') (er : X.1 = X'.1) (eh : X.2.1 = X'.2.1) (ed : X.2.2.1 = X'.2.2.1) {t t' : Nat} {τ τ' : zFo} (e : zfS (zfr0 X) = some (t, τ)) (e' : zfS (zfr0 X') = some (t', τ')) (hall : ∀ a, a < X.2.1 → ∀ c, c < X.2.2.1 → τ.2.1 a c = τ'.2.1 a c) : t = t' := by
  obtain ⟨w1, w2, w3, w4, w5⟩ := zfS_w hX e
  obtain ⟨v1, v2, v3, v4, v5⟩ := zfS_w hY e'
  rcases Nat.lt_trichotomy t t' with h | h | h
  · exfalso
    refine v4 t h ?_
    rw [← hall t (by omega) t (by omega)]
    exact zfnd_n hX.1.1 w1.2.1 w3 w5 t t (Nat.le_refl _) (by omega) (Nat.le_refl _) (by omega)
  · exact h
  · exfalso
    refine w4 t' h ?_
    rw [hall t' (by omega) t' (by omega)]
    exact zfnd_n hY.1.1 v1.2.1 v3 v5 t' t' (Nat.le_refl _) (by omega) (Nat.le_refl _) (by omega)
theorem r_equi {K : zKt} {code rf rs pr pn : Int32} {bad : Bool} {J : zJt} {m pa pb pc vf vs : Nat → Int32} {B : zBt} {w : Nat → Int64} {p : Nat × Nat} {Q : zR → zH → Prop} {S : zSs} {a0 a1 : Int32} (hw : zSw S) (hR : zRS m S) (H : ∀ m' h', zRS m' (zc_equi S a0 a1).2 → zRH K J B w m' (zcd [0, 1, 3] (zc_equi S a0 a1).1) h' → Q (.inl (some (.int (zrv (zc_equi S a0 a1).1)))) h') : zT zm_221 [.ref 75, .int a0, .int a1] p (zh K (code, rf, rs, bad, pr, pn, J) (m, pa, pb, pc, vf, vs, B) w) Q := by
  refine b221 (s218 hw hR (fun c => b221_6 ⟨fun _ => zfin (S := S) H (zboth_0 c) m _ hR ⟨_, _, _, _, _, _, _, _, _, _, rfl⟩, fun h => absurd (by decide) h⟩) (fun k0 k1 hk0 hk1 e0 e1 c0 c1 e => b221_6 ⟨fun _ => zfin (S := S) H (zboth_1 c0 c1 hk0 hk1 e0 e1 e) m _ hR ⟨_, _, _, _, _, _, _, _, _, _, rfl⟩, fun h => absurd (by decide) h⟩) (fun k0 k1 X X' hk0 hk1 e0 e1 c0 c1 e e' => ?_))
  have hX := hw k0 X hk0 e
  have hY := hw k1 X' hk1 e'
  have hb := zRS_b hR hk0 e
  have hb' := zRS_b hR hk1 e'
  have hr1 := zrg_lt hX.1.1
  have hr2 := zrg_lt hY.1.1
  have h1 := hX.1.2.2.1
  have h2 := hX.1.2.2.2.2
  have h3 := hY.1.2.2.1
  have h4 := hY.1.2.2.2.2
  have ex := zboth_2 (f := fun X X' => if X.1 = X'.1 ∧ X.2.1 = X'.2.1 ∧ X.2.2.1 = X'.2.2.1 then (match zfS (zfr0 X), zfS (zfr0 X') with
    | some q, some q' => (.inl (if ∀ a, a < X.2.1 → ∀ c, c < X.2.2.1 → q.2.2.1 a c = q'.2.2.1 a c then (1 : Int32) else 0), S)
    | _, _ => (.inr 3, S)) else (.inl 0, S)) c0 c1 hk0 hk1 e0 e1 e e'
  have no : ¬ (X.1 = X'.1 ∧ X.2.1 = X'.2.1 ∧ X.2.2.1 = X'.2.2.1) → Q (.inl (some (.int (0 : Int32)))) (zh K ((0 : Int32), rf, rs, bad, pr, pn, J) (m, pa, pb, pc, vf, vs, B) w) := fun hn =>
    zfin (S := S) (x := .inl 0) (S' := S) H (ex.trans (if_neg hn)) m _ hR ⟨_, _, _, _, _, _, _, _, _, _, rfl⟩
  refine b221_6 ⟨fun h => absurd h (by decide), fun _ => ⟨k0, e0, k1, e1, by omega, by omega, ?_⟩⟩
  rw [show m (1068 * k0 + 0) = Int32.ofNat X.1 from hb.1.1, show m (1068 * k1 + 0) = Int32.ofNat X'.1 from hb'.1.1, hb.1.2.2, hb'.1.2.2, hb.1.2.1, hb'.1.2.1]
  refine ⟨fun c => no (fun g => (of_decide_eq_false c) (by rw [g.1])), fun c => ⟨by omega, by omega, fun c2 => no (fun g => (of_decide_eq_false c2) (by rw [g.2.1])), fun c2 => ⟨by omega, by omega, fun c' => ?_, fun c' => no (fun g => (of_decide_eq_false c') (by rw [g.2.2]))⟩⟩⟩
  have er := zN_inj (by omega) (by omega) (of_decide_eq_true c)
  have eh := zN_inj (by omega) (by omega) (of_decide_eq_true c2)
  have ed := zN_inj (by omega) (by omega) (of_decide_eq_true c')
  have ex := ex.trans (if_pos ⟨er, eh, ed⟩)
  rw [e0]
  refine s208 hw hR hk0 e (fun ρ τ eτ rf' rs' pa' pb' pc' pr' pn' m3 k1' hb3 hw3 => b221_53 ?_) (fun eτ rv rf' rs' pa' pb' pc' pr' pn' m3 k1' => b221_53 ?_)
  · have hR3 := zRS_fr hR hw k1' (by omega)
    have hρ := (zfS_w hX eτ).2.1
    rw [e1, z1068]
    refine s154 (β := 1068 * k1) (C := 4272) (by omega) (by omega) (by omega) (fun m4 q1 q2 => b221_67 ?_)
    have hR4 := zRS_fr hR3 hw q1 (by omega)
    have hb4 := zRb_cp q2 hY.2.1 (zRS_b hR3 hk1 e')
    have hb43 : zRb m4 3204 X.1 X.2.1 X.2.2.1 X.2.2.2.2.2.1 τ := zRb_fr q1 (by omega) hw3.1 hb3
    refine s146 (β := 4272) (by omega) hb4.1 hb4.2.2.1 (fun m5 u1 u2 => b221_74 ⟨fun _ => ?_, fun h => (by cases h)⟩)
    have hR5 := zRS_fr hR4 hw u1 (by omega)
    have hb53 : zRb m5 3204 X.1 X.2.1 X.2.2.1 X.2.2.2.2.2.1 τ := zRb_fr u1 (by omega) hw3.1 hb43
    refine s200 (β := 4272) (O := X'.2.2.2.2.2.1) (σ := (0, X'.2.2.2.2.2.1, zg0)) hY.1 (by omega) (⟨rfl, u2 zg0, zwf_0 hY.2.2.1⟩ : zGB false m5 4272 X'.1 X'.2.1 X'.2.2.1 X'.2.2.2.2.2.1 (some (0, X'.2.2.2.2.2.1, zg0))) (fun ρ' τ' eτ2 rf2 rs2 pa2 pb2 pc2 pr2 pn2 m6 v1 v2 => b221_92 ⟨fun _ => ⟨fun h => (by cases h), fun _ => ?_⟩, fun h => (by cases h)⟩) (fun eτ2 rv rf2 rs2 pa2 pb2 pc2 pr2 pn2 m6 v1 v2 => b221_92 ⟨fun h => (by cases h), fun _ => ⟨fun _ => ?_, fun h => (by cases h)⟩⟩)
    · have eτ2' : zfS (zfr0 X') = some (ρ', τ') := eτ2
      obtain ⟨_, hb6, hw6⟩ := v2
      have hR6 := zRS_fr hR5 hw v1 (by omega)
      have hb63 : zRb m6 3204 X.1 X.2.1 X.2.2.1 X.2.2.2.2.2.1 τ := zRb_fr v1 (by omega) hw3.1 hb53
      have hρ' := (zfS_w hY eτ2').2.1
      have hrk := zequ_r hX hY er eh ed eτ eτ2'
      rw [eτ, eτ2'] at ex
      have hF6 := hw6.2.1
      rw [← er, ← ed] at hF6
      have hl := zlike (n := X.2.1) h1 h2 hw3.2.1 hF6 hb63.2.2.1 hb6.2.2.1
      refine ⟨fun hne => ?_, fun heq => ?_⟩
      · exact zfin (S := S) (x := .inl 0) (S' := S) H (ex.trans (by show (Sum.inl (if (∀ a, a < X.2.1 → ∀ c, c < X.2.2.1 → τ.2.1 a c = τ'.2.1 a c) then _ else _), S) = _; rw [if_neg (fun g => hne (by rw [hrk g]))])) m6 _ hR6 ⟨_, _, _, _, _, _, _, _, _, _, rfl⟩
      · rw [show m6 3205 = Int32.ofNat X.2.1 from hb63.1.2.1]
        refine s220 h1 (fun hall => b221_136 (rv := true) ⟨fun h => (by cases h), fun _ => ?_⟩) (fun hall => b221_136 (rv := false) ⟨fun _ => ?_, fun h => (by cases h)⟩)
        · exact zfin (S := S) (x := .inl 1) (S' := S) H (ex.trans (by show (Sum.inl (if (∀ a, a < X.2.1 → ∀ c, c < X.2.2.1 → τ.2.1 a c = τ'.2.1 a c) then _ else _), S) = _; rw [if_pos (hl.mp hall)])) m6 _ hR6 ⟨_, _, _, _, _, _, _, _, _, _, rfl⟩
        · exact zfin (S := S) (x := .inl 0) (S' := S) H (ex.trans (by show (Sum.inl (if (∀ a, a < X.2.1 → ∀ c, c < X.2.2.1 → τ.2.1 a c = τ'.2.1 a c) then _ else _), S) = _; rw [if_neg (fun g => hall (hl.mpr g))])) m6 _ hR6 ⟨_, _, _, _, _, _, _, _, _, _, rfl⟩
    · rw [eτ, show zfS (zfr0 X') = none from eτ2] at ex
      exact zfin (S := S) (x := .inr 3) (S' := S) H ex m6 _ (zRS_fr hR5 hw v1 (by omega)) ⟨_, _, _, _, _, _, _, _, _, _, rfl⟩
  · rw [eτ] at ex
    have hR3 := zRS_fr hR hw k1' (by omega)
    rw [e1, z1068]
    refine s154 (β := 1068 * k1) (C := 4272) (by omega) (by omega) (by omega) (fun m4 q1 q2 => b221_67 ?_)
    have hR4 := zRS_fr hR3 hw q1 (by omega)
    have hb4 := zRb_cp q2 hY.2.1 (zRS_b hR3 hk1 e')
    refine s146 (β := 4272) (by omega) hb4.1 hb4.2.2.1 (fun m5 u1 u2 => b221_74 ⟨fun h => (by cases h), fun _ => ⟨fun h => (by cases h), fun _ => ⟨fun _ => ?_, fun h => (by cases h)⟩⟩⟩)
    exact zfin (S := S) (x := .inr 3) (S' := S) H (ex.trans (by cases zfS (zfr0 X') <;> rfl)) m5 _ (zRS_fr hR4 hw u1 (by omega)) ⟨_, _, _, _, _, _, _, _, _, _, rfl⟩
