/-! THE CLASS'S Hermite form -/
theorem zneg_z {r : Nat} (hr : zrg r) {a : zE2} (ha : zok r a) : zneg r a = (0, 0) ↔ a = (0, 0) := by
  rcases zrg_c hr with rfl | rfl | hq
  · have h1 := ha.1
    have h2 : a.2.toInt = 0 := by rw [ha.2.2]; rfl
    rw [zE_0, zE_0, show (zneg 0 a).1 = -a.1 from rfl, show (zneg 0 a).2 = 0 from rfl, zIn (by omega), show Int32.toInt 0 = 0 from rfl]
    omega
  · have h1 := ha.1
    have h3 := ha.2.2.1
    rw [zE_0, zE_0, show (zneg 1 a).1 = -a.1 from rfl, show (zneg 1 a).2 = -a.2 from rfl, zIn (by omega), zIn (by omega)]
    omega
  · have hq7 := zprm_lt hq
    have hpw := zpw_lt hq
    obtain ⟨v, hv, rfl⟩ := (zok_p hq).mp ha
    have hn : zngP r v < r ^ 8 := zho_lt (by omega) _ 8
    rw [zneg_p hq hv]
    constructor
    · intro h
      have h0 : zngP r v = 0 := (zN_0 (by omega)).mp (congrArg Prod.fst h)
      have : v = 0 := by
        refine zcf_ext hv (Nat.pow_pos (by omega)) (fun k hk => ?_)
        have e := zcf_zho (p := r) (by omega) (fun k => r - zcf r v k) hk
        have e0 : zcf r (zngP r v) k = 0 := by rw [h0, zcf_0]
        unfold zngP at e0
        rw [e0] at e
        have hc := zcf_lt (p := r) (by omega) v k
        rw [zcf_0]
        by_cases hz : zcf r v k = 0
        · exact hz
        · have : (r - zcf r v k) % r = r - zcf r v k := Nat.mod_eq_of_lt (by omega)
          rw [this] at e
          omega
      rw [this]; rfl
    · intro h
      have h0 : v = 0 := (zN_0 (by omega)).mp (congrArg Prod.fst h)
      subst h0
      have : zngP r 0 = 0 := by
        refine zcf_ext hn (Nat.pow_pos (by omega)) (fun k hk => ?_)
        unfold zngP
        rw [zcf_zho (by omega) _ hk, zcf_0, Nat.sub_zero, Nat.mod_self]
      rw [this]; rfl
theorem zdvL_z {q : Nat} {b : Nat → Nat} {d iv : Nat} : ∀ (n : Nat) (s : (Nat → Nat) × (Nat → Nat)), (∀ k, s.1 k = 0) → (∀ k, s.2 k = 0) → ∀ k, (zdvL q b d iv n s).2 k = 0 := by
  intro n
  induction n with
  | zero => intro s _ h k; exact h k
  | succ n ih =>
    intro s h1 h2 k
    have e : s.1 (n + d) * iv % q = 0 := by rw [h1, Nat.zero_mul, Nat.zero_mod]
    refine ih _ (fun k => ?_) (fun k => ?_) k
    · dsimp only
      rw [e]
      unfold zdvS
      split
      · rw [h1, Nat.zero_add, Nat.sub_zero, Nat.mul_mod_right]
      · exact h1 k
    · dsimp only
      rw [e]
      by_cases hk : k = n
      · subst hk; rw [va_up_self]
      · rw [va_up_ne _ _ hk]; exact h2 k
theorem zquo_z {r : Nat} (hr : zrg r) {b : zE2} (hb : zok r b) (hb0 : b ≠ (0, 0)) : zquo r (0, 0) b = (0, 0) := by
  rcases zrg_c hr with rfl | rfl | hq
  · show (Int32.ofInt (zq0 (Int32.toInt 0) b.1.toInt), (0 : Int32)) = (0, 0)
    have : zq0 (Int32.toInt 0) b.1.toInt = 0 := by
      unfold zq0
      rw [show Int32.toInt 0 = 0 from rfl, Int.zero_ediv, Int.zero_ediv]
      split <;> rfl
    rw [this]; rfl
  · have hn := zq1n_pos (r := 1) hb0
    have hd : zq1n b / (2 * zq1n b) = 0 := Int.ediv_eq_zero_of_lt (by omega) (by omega)
    have z : Int32.toInt 0 = 0 := rfl
    have e1 : zq1x (0, 0) b = 0 := by
      unfold zq1x
      rw [show ((0 : Int32), (0 : Int32)).1.toInt = 0 from rfl, Int.zero_mul, Int.zero_mul, Int.add_zero, Int.mul_zero, Int.zero_add]
      exact hd
    have e2 : zq1y (0, 0) b = 0 := by
      unfold zq1y
      rw [show ((0 : Int32), (0 : Int32)).1.toInt = 0 from rfl, Int.zero_mul, Int.zero_mul, Int.sub_zero, Int.mul_zero, Int.zero_add]
      exact hd
    show (Int32.ofInt (zq1x (0, 0) b), Int32.ofInt (zq1y (0, 0) b)) = (0, 0)
    rw [e1, e2]; rfl
  · have hq7 := zprm_lt hq
    obtain ⟨u, hu, rfl⟩ := (zok_p hq).mp hb
    have e := zquo_p hq (a := 0) (Nat.pow_pos (by omega)) hu
    rw [show ((Int32.ofNat 0, (0 : Int32)) : zE2) = (0, 0) from rfl] at e
    rw [e]
    have : zqP r 0 u = 0 := by
      unfold zqP
      refine zcf_ext (zho_lt (by omega) _ 8) (Nat.pow_pos (by omega)) (fun k hk => ?_)
      rw [zcf_zho (by omega) _ hk, zdvL_z _ _ (fun k => zcf_0 r k) (fun _ => rfl), zcf_0, Nat.zero_mod]
    rw [this]; rfl
theorem l12 {T : Nat → zX} {Y : zYt} {I : zIt} {A : zAt} {w : Nat → Int64} {p : Nat × Nat} {Q : zR → zH → Prop} {i r h d q : Nat} {E : zMe} (hi : i < 6) (hsh : zsh r h d) (hX : zXb (T i)) (hh : zCh (T i) r h d) (he : zCe (T i).2.2.2.2.1 E) (hE : zEw r h d E) (hq : q < 4) : ∀ (y x : Nat) (b : Option Nat) (l : Int64) (P : zPt), x + y = h → (∀ k, b = some k → k < 4) → (∀ P', Q (.inl (some (.int (zob (zsml r E q y x b l))))) (zh (P', T, Y) I A w)) →
    zW zm_12 8 [some (.ref (21 + 8 * i)), none, some (.int (Int32.ofNat q)), some (.int (zob b)), some (.long l), none, some (.int (Int32.ofNat x)), none, none] [] p (zh (P, T, Y) I A w) Q := by
  have h4 := hsh.2.2.1
  intro y
  induction y with
  | zero =>
    intro x b l P hx hb H
    exact b12_8 hi ⟨by omega, by rw [hh.2.1]; omega, fun _ => H P, fun hn => by rw [hh.2.1] at hn; omega⟩
  | succ y ih =>
    intro x b l P hx hb H
    refine b12_8 hi ⟨by omega, by rw [hh.2.1]; omega, fun hn => by rw [hh.2.1] at hn; omega, fun _ => ⟨hX, ?_⟩⟩
    rw [zxat_e hX hh he hE (by omega) (by omega), hh.1]
    refine c_size hsh.1 (hE.1 x q) (fun P' => ?_)
    have hz := zsz_i hsh.1 (hE.1 x q)
    have hle : ∀ a b : Int64, a ≤ b ↔ a.toInt ≤ b.toInt := fun a b => Int64.le_iff_toInt_le
    have hlt : ∀ a b : Int64, a < b ↔ a.toInt < b.toInt := fun a b => Int64.lt_iff_toInt_lt
    have z0 : zsz r (E x q) = 0 ↔ (zsz r (E x q)).toInt = 0 := by rw [← Int64.toInt_inj]; rfl
    have take : (0 < (zsz r (E x q)).toInt ∧ (b = none ∨ zsz r (E x q) < l)) → zW zm_12 8 [some (.ref (21 + 8 * i)), none, some (.int (Int32.ofNat q)), some (.int (Int32.ofNat x)), some (.long (zsz r (E x q))), none, some (.int (Int32.ofNat (x + 1))), none, none] [] p (zh (P', T, Y) I A w) Q := by
      intro hc
      simp only [zsml] at H
      rw [if_pos hc] at H
      exact ih (x + 1) (some x) (zsz r (E x q)) P' (by omega) (fun k hk => by cases hk; omega) H
    have keep : ¬ (0 < (zsz r (E x q)).toInt ∧ (b = none ∨ zsz r (E x q) < l)) → zW zm_12 8 [some (.ref (21 + 8 * i)), none, some (.int (Int32.ofNat q)), some (.int (zob b)), some (.long l), none, some (.int (Int32.ofNat (x + 1))), none, none] [] p (zh (P', T, Y) I A w) Q := by
      intro hc
      simp only [zsml] at H
      rw [if_neg hc] at H
      exact ih (x + 1) b l P' (by omega) hb H
    refine b12_31 ⟨fun c0 => keep (fun hc => ?_), fun c0 => ⟨fun c1 => take ⟨?_, ?_⟩, fun c1 => ⟨fun c2 => keep (fun hc => ?_), fun c2 => take ⟨?_, ?_⟩⟩⟩⟩
    · rw [z0] at c0; omega
    · rw [z0] at c0; omega
    · left
      cases b with
      | none => rfl
      | some k => exact absurd c1 (zob_n (by have := hb k rfl; omega))
    · rcases hc.2 with h2 | h2
      · subst h2; exact absurd rfl c1
      · rw [hlt] at h2; rw [hle] at c2; omega
    · rw [z0] at c0; omega
    · right; rw [hlt]; rw [hle] at c2; omega
/-- smallestFrom -/
theorem s12 {P : zPt} {T : Nat → zX} {Y : zYt} {I : zIt} {A : zAt} {w : Nat → Int64} {p : Nat × Nat} {Q : zR → zH → Prop} {i r h d q a : Nat} {E : zMe} (hi : i < 6) (hsh : zsh r h d) (hX : zXb (T i)) (hh : zCh (T i) r h d) (he : zCe (T i).2.2.2.2.1 E) (hE : zEw r h d E) (hq : q < 4) (ha : a ≤ h) (H : ∀ P', Q (.inl (some (.int (zob (zsml r E q (h - a) a none 0))))) (zh (P', T, Y) I A w)) :
    zT zm_12 [.ref (21 + 8 * i), .int (Int32.ofNat a), .int (Int32.ofNat q)] p (zh (P, T, Y) I A w) Q := b12 (l12 hi hsh hX hh he hE hq (h - a) a none 0 P (by omega) (fun k hk => by cases hk) H)
theorem zclr_gt {r h d : Nat} {c : Bool} {i t q : Nat} {σ : zFo} (hn : ¬ (c = false ∧ i < t)) (h0 : zlg c σ.2.1 i q ≠ (0, 0)) : zclr r h d c i t q σ = zdo r h d (bif c then 4 else 1, i, t, zneg r (zquo r (zlg c σ.2.1 i q) (zlg c σ.2.1 t q))) σ := by
  unfold zclr
  rw [if_neg h0, if_neg (fun hh => hn hh.2)]
theorem zclr_0 {r h d : Nat} {c : Bool} {i t q : Nat} {σ : zFo} (h0 : zlg c σ.2.1 i q = (0, 0)) : zclr r h d c i t q σ = some σ := by
  unfold zclr
  rw [if_pos h0]
theorem l13c {Y : zYt} {I : zIt} {A : zAt} {w : Nat → Int64} {p : Nat × Nat} {Q : zR → zH → Prop} {i r h d ρ q u : Nat} {O : zMe} {T0 : Nat → zX} {oF : Option zFo} {piv : zE2} (hi : i < 6) (hsh : zsh r h d) (hρ : ρ < h) (hq : q < d) (hp : piv ≠ (0, 0))
    (H1 : ∀ τ, oF = some τ → ∀ P' T', zTo i T0 T' → zCX (T' i) r h d O τ → zwf r h d O τ → zT zm_12 [.ref (21 + 8 * i), .int (Int32.ofNat (ρ + 1)), .int (Int32.ofNat q)] p (zh (P', T', Y) I A w) (zK zm_13 111 [some (.ref (21 + 8 * i)), some (.int (Int32.ofNat ρ)), some (.int (Int32.ofNat q)), none, some (.int (Int32.ofNat u)), none, none, none, none, none, none] [] p Q))
    (H2 : oF = none → ∀ P' T', zTo i T0 T' → zXb (T' i) → Q (.inr 3) (zh (P', T', Y) I A w)) :
    ∀ (y x : Nat) (P : zPt) (T : Nat → zX) (σ : zFo), x + y = h → ρ < x → zTo i T0 T → zCX (T i) r h d O σ → zwf r h d O σ → σ.2.1 ρ q = piv → zclrs r h d false ρ q y x (some σ) = oF →
    zW zm_13 53 [some (.ref (21 + 8 * i)), some (.int (Int32.ofNat ρ)), some (.int (Int32.ofNat q)), none, some (.int (Int32.ofNat u)), none, some (.long (zen piv)), none, some (.int (Int32.ofNat x)), none, none] [] p (zh (P, T, Y) I A w) Q := by
  have h4 := hsh.2.2.1
  have h5 := hsh.2.2.2.2
  intro y
  induction y with
  | zero =>
    intro x P T σ hx hρx hf hX hw hpv he
    refine b13_53 hi ⟨by omega, by rw [hX.1.2.1]; omega, fun _ => ?_, fun hn => by rw [hX.1.2.1] at hn; omega⟩
    rw [show Int32.ofNat ρ + (1 : Int32) = Int32.ofNat (ρ + 1) from zN_a rfl rfl]
    exact H1 σ he.symm P T hf hX hw
  | succ y ih =>
    intro x P T σ hx hρx hf hX hw hpv he
    have hXb := zCX_b hsh hw hX
    simp only [zclrs, Option.bind_some] at he
    refine b13_53 hi ⟨by omega, by rw [hX.1.2.1]; omega, fun hn => by rw [hX.1.2.1] at hn; omega, fun _ => ⟨hXb, ?_⟩⟩
    rw [zxat_e hXb hX.1 hX.2.2.1 hw.2.1 (by omega) (by omega), hX.1.1]
    refine ⟨fun hz => ?_, fun hz => ?_⟩
    · rw [zclr_0 (c := false) (show zlg false σ.2.1 x q = (0, 0) from zen_z.mp hz)] at he
      exact ih (x + 1) P T σ (by omega) (by omega) hf hX hw hpv he
    · have hne : zlg false σ.2.1 x q ≠ (0, 0) := fun h => hz (zen_z.mpr h)
      have hpp : zlg false σ.2.1 ρ q ≠ (0, 0) := by show σ.2.1 ρ q ≠ (0, 0); rw [hpv]; exact hp
      have e1 := zclr_gt (r := r) (h := h) (d := d) (c := false) (i := x) (t := ρ) (q := q) (σ := σ) (fun hh => by omega) hne
      rw [e1] at he
      have hsv := zclr_sv hsh.1 hw.2.1 (c := false) (show x < h by omega) (show ρ < h by omega) (by omega) hpp
      have hpv' : zlg false σ.2.1 ρ q = piv := hpv
      rw [hpv'] at hsv he
      refine c_mq hsh.1 (hw.2.1.1 x q) (by have := hw.2.1.1 ρ q; rw [hpv] at this; exact this) hp (fun P' => b13_94 hi ?_)
      refine s39 (s := (1, x, ρ, zneg r (zquo r (σ.2.1 x q) piv))) hi hsh hX hw hsv rfl rfl rfl (fun τ eτ P2 T2 f1 f2 => b13_97 ?_) (fun eτ P2 T2 f1 fX => H2 ?_ P2 T2 (zTo_t hf f1) (zCX_b hsh hw fX))
      · have eτ' : zdo r h d (bif false then 4 else 1, x, ρ, zneg r (zquo r (zlg false σ.2.1 x q) piv)) σ = some τ := eτ
        rw [eτ'] at he
        have hk := zdo_keep eτ q (l := ρ) (show ρ ≠ x by omega) (Or.inl (by show 1 % 3 ≠ 0; decide))
        have hk : τ.2.1 ρ q = σ.2.1 ρ q := hk
        exact ih (x + 1) P2 T2 τ (by omega) (by omega) (zTo_t hf f1) f2 (zdo_w hsh.1 hw hsv eτ) (by rw [hk]; exact hpv) he
      · have eτ' : zdo r h d (bif false then 4 else 1, x, ρ, zneg r (zquo r (zlg false σ.2.1 x q) piv)) σ = none := eτ
        rw [eτ', zclrs_none] at he
        exact he.symm
theorem l13 {Y : zYt} {I : zIt} {A : zAt} {w : Nat → Int64} {p : Nat × Nat} {Q : zR → zH → Prop} {i r h d ρ q : Nat} {O : zMe} {T0 : Nat → zX} {oF : Option zFo} (hi : i < 6) (hsh : zsh r h d) (hρ : ρ < h) (hq : q < d)
    (H1 : ∀ τ, oF = some τ → ∀ P' T', zTo i T0 T' → zCX (T' i) r h d O τ → zwf r h d O τ → τ.2.1 ρ q ≠ (0, 0) → Q (.inl none) (zh (P', T', Y) I A w)) (H2 : oF = none → ∀ P' T', zTo i T0 T' → zXb (T' i) → Q (.inr 3) (zh (P', T', Y) I A w)) :
    ∀ (n u : Nat) (P : zPt) (T : Nat → zX) (σ : zFo), n + u = 201 → u ≤ σ.1 → zTo i T0 T → zCX (T i) r h d O σ → zwf r h d O σ → (∃ k, ρ ≤ k ∧ k < h ∧ σ.2.1 k q ≠ (0, 0)) → zpvl r h d ρ q n σ = oF →
    zW zm_13 5 [some (.ref (21 + 8 * i)), some (.int (Int32.ofNat ρ)), some (.int (Int32.ofNat q)), some (.int (Int32.ofNat 0)), some (.int (Int32.ofNat u)), none, none, none, none, none, none] [] p (zh (P, T, Y) I A w) Q := by
  have h4 := hsh.2.2.1
  have h5 := hsh.2.2.2.2
  intro n
  induction n with
  | zero => intro u P T σ hn hu hf hX hw; have := hw.1; omega
  | succ n ih =>
    intro u P T σ hn hu hf hX hw hk he
    have hXb := zCX_b hsh hw hX
    cases hs : zsml r σ.2.1 q (h - ρ) ρ none 0 with
    | none =>
      obtain ⟨k, k1, k2, k3⟩ := hk
      exact absurd (((zsml_p hsh.1 hw.2.1 q _ _ _ _).2 hs).2 k k1 (by omega)) k3
    | some ii =>
      rcases (zsml_p hsh.1 hw.2.1 q _ _ _ _).1 ii hs with h1 | ⟨i1, i2, i3⟩
      · cases h1
      · refine b13_5 ⟨by omega, fun h => by omega, fun _ => ⟨by omega, fun h => absurd rfl h, fun _ => s12 hi hsh hXb hX.1 hX.2.2.1 hw.2.1 (by omega) (by omega) (fun P1 => ?_)⟩⟩
        rw [hs]
        have cl : ∀ σ1, zswp r h d 0 ρ ii σ = some σ1 → ∀ P' T', zTo i T0 T' → zCX (T' i) r h d O σ1 → zwf r h d O σ1 → σ1.2.1 ρ q ≠ (0, 0) → zW zm_13 53 [some (.ref (21 + 8 * i)), some (.int (Int32.ofNat ρ)), some (.int (Int32.ofNat q)), none, some (.int (Int32.ofNat u)), none, some (.long (zen (σ1.2.1 ρ q))), none, some (.int (Int32.ofNat (ρ + 1))), none, none] [] p (zh (P', T', Y) I A w) Q := by
          intro σ1 e1 P' T' f1 f2 f3 f4
          refine l13c (oF := zclrs r h d false ρ q (h - (ρ + 1)) (ρ + 1) (some σ1)) hi hsh hρ hq f4 (fun τ eτ P2 T2 g1 g2 g3 => ?_) (fun eτ P2 T2 g1 fX => H2 ?_ P2 T2 g1 fX) (h - (ρ + 1)) (ρ + 1) P' T' σ1 (by omega) (by omega) f1 f2 f3 rfl rfl
          · have hz : zclrs r h d false ρ q (h - (ρ + 1)) (ρ + 1) (zswp r h d 0 ρ ii σ) = some τ := by rw [e1]; exact eτ
            obtain ⟨σ2, t1, t2, t3, t4, t5, t6, t7⟩ := zturn hsh hw hρ hq hs hz
            rw [zpvl_s hs hz] at he
            refine s12 hi hsh (zCX_b hsh g3 g2) g2.1 g2.2.2.1 g3.2.1 (by omega) (by omega) (fun P3 => ?_)
            have hzi : zsml r τ.2.1 q (h - (ρ + 1)) (ρ + 1) none 0 = none ↔ zicl false τ.2.1 q (ρ + 1) h = true := by
              rw [zicl_iff]
              constructor
              · intro hnn k hk1 hk2
                exact ((zsml_p hsh.1 g3.2.1 q _ _ _ _).2 hnn).2 k hk2 (by omega)
              · intro hall
                cases hv : zsml r τ.2.1 q (h - (ρ + 1)) (ρ + 1) none 0 with
                | none => rfl
                | some z =>
                  rcases (zsml_p hsh.1 g3.2.1 q _ _ _ _).1 z hv with h1 | ⟨z1, z2, z3⟩
                  · cases h1
                  · exact absurd (hall z (by omega) z1) z3
            refine b13_111 ⟨fun hrv => ?_, fun hrv => ?_⟩
            · have hcf : zicl false τ.2.1 q (ρ + 1) h = false := by
                cases hv : zicl false τ.2.1 q (ρ + 1) h with
                | false => rfl
                | true => rw [hzi.mpr hv] at hrv; exact absurd rfl hrv
              rw [if_neg (by rw [hcf]; decide)] at he
              have := t7 hcf
              exact ih (u + 1) P3 T2 τ (by omega) (by omega) g1 g2 g3 ⟨ρ, Nat.le_refl _, hρ, t5⟩ he
            · have hct : zicl false τ.2.1 q (ρ + 1) h = true := by
                rw [← hzi]
                cases hv : zsml r τ.2.1 q (h - (ρ + 1)) (ρ + 1) none 0 with
                | none => rfl
                | some z =>
                  rw [hv] at hrv
                  rcases (zsml_p hsh.1 g3.2.1 q _ _ _ _).1 z hv with h1 | ⟨z1, z2, z3⟩
                  · cases h1
                  · exact absurd hrv (zob_n (by omega))
              rw [if_pos hct] at he
              have fin := H1 τ he.symm P3 T2 g1 g2 g3 t5
              refine b13_5 ⟨by omega, fun _ => fin, fun _ => ⟨by omega, fun _ => fin, fun h => absurd h (by decide)⟩⟩
          · rw [zpvl_n hs (by rw [e1]; exact eτ)] at he
            exact he.symm
        refine b13_23 hi ⟨fun h => ⟨hXb, ?_⟩, fun hn2 => ?_⟩
        · have : ii = ρ := zN_inj (by omega) (by omega) h
          rw [zxat_e hXb hX.1 hX.2.2.1 hw.2.1 (by omega) (by omega)]
          subst this
          exact cl σ (by unfold zswp; rw [if_pos rfl]) P1 T hf hX hw i3
        · have hne : ii ≠ ρ := fun h => hn2 (by rw [h]; rfl)
          have hsv := zswp_sv (r := r) (h := h) (d := d) hsh.1 false (show ii < h by omega) hρ hne
          rw [← zen_0]
          refine s39 (s := (0, ρ, ii, (0, 0))) hi hsh hX hw hsv rfl rfl rfl (fun τ eτ P2 T2 f1 f2 => b13_40 hi ?_) (fun eτ P2 T2 f1 fX => H2 ?_ P2 T2 (zTo_t hf f1) (zCX_b hsh hw fX))
          · have e1 : zswp r h d 0 ρ ii σ = some τ := by unfold zswp; rw [if_neg hne]; exact eτ
            obtain ⟨w1, w2, _⟩ := zswp_w hsh.1 false hw (show ii < h by omega) hρ e1
            have w1' := w1
            refine ⟨zCX_b hsh w1 f2, ?_⟩
            rw [zxat_e (zCX_b hsh w1 f2) f2.1 f2.2.2.1 w1.2.1 (by omega) (by omega)]
            refine cl τ e1 P2 T2 (zTo_t hf f1) f2 w1 ?_
            have : τ.2.1 ρ q = σ.2.1 ii q := w2 q hq
            rw [this]; exact i3
          · have e1 : zswp r h d 0 ρ ii σ = none := by unfold zswp; rw [if_neg hne]; exact eτ
            rw [zpvl_n hs (by rw [e1, zclrs_none])] at he
            exact he.symm
/-- clearBelow -/
theorem s13 {P : zPt} {T : Nat → zX} {Y : zYt} {I : zIt} {A : zAt} {w : Nat → Int64} {p : Nat × Nat} {Q : zR → zH → Prop} {i r h d ρ q : Nat} {O : zMe} {σ : zFo} (hi : i < 6) (hsh : zsh r h d) (hρ : ρ < h) (hq : q < d) (hX : zCX (T i) r h d O σ) (hw : zwf r h d O σ) (hk : ∃ k, ρ ≤ k ∧ k < h ∧ σ.2.1 k q ≠ (0, 0))
    (H1 : ∀ τ, zpvl r h d ρ q 201 σ = some τ → ∀ P' T', zTo i T T' → zCX (T' i) r h d O τ → zwf r h d O τ → τ.2.1 ρ q ≠ (0, 0) → Q (.inl none) (zh (P', T', Y) I A w)) (H2 : zpvl r h d ρ q 201 σ = none → ∀ P' T', zTo i T T' → zXb (T' i) → Q (.inr 3) (zh (P', T', Y) I A w)) :
    zT zm_13 [.ref (21 + 8 * i), .int (Int32.ofNat ρ), .int (Int32.ofNat q)] p (zh (P, T, Y) I A w) Q := b13 (l13 (T0 := T) hi hsh hρ hq H1 H2 201 0 P T σ rfl (Nat.zero_le _) zTo_r hX hw hk rfl)
theorem l14 {Y : zYt} {I : zIt} {A : zAt} {w : Nat → Int64} {p : Nat × Nat} {Q : zR → zH → Prop} {i r h d ρ q : Nat} {O : zMe} {T0 : Nat → zX} {oF : Option zFo} {piv : zE2} (hi : i < 6) (hsh : zsh r h d) (hρ : ρ < h) (hq : q < d) (hp : piv ≠ (0, 0))
    (H1 : ∀ τ, oF = some τ → ∀ P' T', zTo i T0 T' → zCX (T' i) r h d O τ → zwf r h d O τ → Q (.inl none) (zh (P', T', Y) I A w)) (H2 : oF = none → ∀ P' T', zTo i T0 T' → zXb (T' i) → Q (.inr 3) (zh (P', T', Y) I A w)) :
    ∀ (y x : Nat) (P : zPt) (T : Nat → zX) (σ : zFo), x + y = ρ → zTo i T0 T → zCX (T i) r h d O σ → zwf r h d O σ → σ.2.1 ρ q = piv → zclrs r h d false ρ q y x (some σ) = oF →
    zW zm_14 10 [some (.ref (21 + 8 * i)), some (.int (Int32.ofNat ρ)), some (.int (Int32.ofNat q)), some (.long (zen piv)), none, some (.int (Int32.ofNat x)), none, none] [] p (zh (P, T, Y) I A w) Q := by
  have h4 := hsh.2.2.1
  have h5 := hsh.2.2.2.2
  intro y
  induction y with
  | zero =>
    intro x P T σ hx hf hX hw hpv he
    exact b14_10 hi ⟨by omega, by omega, fun _ => H1 σ he.symm P T hf hX hw, fun hn => by omega⟩
  | succ y ih =>
    intro x P T σ hx hf hX hw hpv he
    have hXb := zCX_b hsh hw hX
    simp only [zclrs, Option.bind_some] at he
    have hpo : zok r piv := by have := hw.2.1.1 ρ q; rw [hpv] at this; exact this
    refine b14_10 hi ⟨by omega, by omega, fun hn => by omega, fun _ => ⟨hXb, ?_⟩⟩
    rw [zxat_e hXb hX.1 hX.2.2.1 hw.2.1 (by omega) (by omega), hX.1.1]
    have hqo := zok_quo hsh.1 (hw.2.1.1 x q) hpo hp
    refine c_mq hsh.1 (hw.2.1.1 x q) hpo hp (fun P' => b14_31 hi ⟨fun hz => ?_, fun hz => ?_⟩)
    · have hz0 : zquo r (σ.2.1 x q) piv = (0, 0) := (zneg_z hsh.1 hqo).mp (zen_z.mp hz)
      have e1 : zclr r h d false x ρ q σ = some σ := by
        unfold zclr
        split
        · rfl
        · rw [if_pos ⟨by show zquo r (σ.2.1 x q) (σ.2.1 ρ q) = (0, 0); rw [hpv]; exact hz0, rfl, by omega⟩]
      rw [e1] at he
      exact ih (x + 1) P' T σ (by omega) hf hX hw hpv he
    · have hz0 : zquo r (σ.2.1 x q) piv ≠ (0, 0) := fun h => hz (zen_z.mpr ((zneg_z hsh.1 hqo).mpr h))
      have hne : σ.2.1 x q ≠ (0, 0) := fun h => hz0 (by rw [h]; exact zquo_z hsh.1 hpo hp)
      have e1 : zclr r h d false x ρ q σ = zdo r h d (1, x, ρ, zneg r (zquo r (σ.2.1 x q) piv)) σ := by
        unfold zclr
        rw [if_neg (show ¬ zlg false σ.2.1 x q = (0, 0) from hne), if_neg (fun hh => hz0 (by have := hh.1; rw [show zlg false σ.2.1 ρ q = piv from hpv] at this; exact this)), show zlg false σ.2.1 ρ q = piv from hpv]
        rfl
      rw [e1] at he
      have hsv : zsv r h d (1, x, ρ, zneg r (zquo r (σ.2.1 x q) piv)) := zadd_sv (c := false) (show x < h by omega) hρ (by omega) (zok_neg hsh.1 hqo)
      refine s39 (s := (1, x, ρ, zneg r (zquo r (σ.2.1 x q) piv))) hi hsh hX hw hsv rfl rfl rfl (fun τ eτ P2 T2 f1 f2 => b14_50 ?_) (fun eτ P2 T2 f1 fX => H2 ?_ P2 T2 (zTo_t hf f1) (zCX_b hsh hw fX))
      · rw [eτ] at he
        have hk := zdo_keep eτ q (l := ρ) (show ρ ≠ x by omega) (Or.inl (by show 1 % 3 ≠ 0; decide))
        have hk : τ.2.1 ρ q = σ.2.1 ρ q := hk
        exact ih (x + 1) P2 T2 τ (by omega) (zTo_t hf f1) f2 (zdo_w hsh.1 hw hsv eτ) (by rw [hk]; exact hpv) he
      · rw [eτ, zclrs_none] at he
        exact he.symm
theorem s14 {P : zPt} {T : Nat → zX} {Y : zYt} {I : zIt} {A : zAt} {w : Nat → Int64} {p : Nat × Nat} {Q : zR → zH → Prop} {i r h d ρ q : Nat} {O : zMe} {σ : zFo} (hi : i < 6) (hsh : zsh r h d) (hρ : ρ < h) (hq : q < d) (hX : zCX (T i) r h d O σ) (hw : zwf r h d O σ) (hp : σ.2.1 ρ q ≠ (0, 0))
    (H1 : ∀ τ, zclrs r h d false ρ q ρ 0 (some σ) = some τ → ∀ P' T', zTo i T T' → zCX (T' i) r h d O τ → zwf r h d O τ → Q (.inl none) (zh (P', T', Y) I A w)) (H2 : zclrs r h d false ρ q ρ 0 (some σ) = none → ∀ P' T', zTo i T T' → zXb (T' i) → Q (.inr 3) (zh (P', T', Y) I A w)) :
    zT zm_14 [.ref (21 + 8 * i), .int (Int32.ofNat ρ), .int (Int32.ofNat q)] p (zh (P, T, Y) I A w) Q := by
  have h4 := hsh.2.2.1
  have h5 := hsh.2.2.2.2
  have hXb := zCX_b hsh hw hX
  refine b14 hi ⟨hXb, ?_⟩
  rw [zxat_e hXb hX.1 hX.2.2.1 hw.2.1 (by omega) (by omega)]
  exact l14 (T0 := T) hi hsh hρ hq hp H1 H2 ρ 0 P T σ (by omega) zTo_r hX hw rfl rfl
theorem l11 {Y : zYt} {I : zIt} {A : zAt} {w : Nat → Int64} {p : Nat × Nat} {Q : zR → zH → Prop} {i r h d : Nat} {O : zMe} {T0 : Nat → zX} {oF : Option (Nat × zFo)} (hi : i < 6) (hsh : zsh r h d)
    (H1 : ∀ ρ τ, oF = some (ρ, τ) → ∀ P' T', zTo i T0 T' → zCX (T' i) r h d O τ → zwf r h d O τ → Q (.inl (some (.int (Int32.ofNat ρ)))) (zh (P', T', Y) I A w)) (H2 : oF = none → ∀ P' T', zTo i T0 T' → zXb (T' i) → Q (.inr 3) (zh (P', T', Y) I A w)) :
    ∀ (y q ρ : Nat) (P : zPt) (T : Nat → zX) (σ : zFo), q + y = d → ρ ≤ h → zTo i T0 T → zCX (T i) r h d O σ → zwf r h d O σ → zhrm r h d y q ρ σ = oF →
    zW zm_11 4 [some (.ref (21 + 8 * i)), some (.int (Int32.ofNat ρ)), some (.int (Int32.ofNat q)), none, none] [] p (zh (P, T, Y) I A w) Q := by
  have h4 := hsh.2.2.1
  have h5 := hsh.2.2.2.2
  intro y
  induction y with
  | zero =>
    intro q ρ P T σ hq hρ hf hX hw he
    exact b11_4 hi ⟨by omega, by rw [hX.1.2.2]; omega, fun _ => H1 ρ σ he.symm P T hf hX hw, fun hn => by rw [hX.1.2.2] at hn; omega⟩
  | succ y ih =>
    intro q ρ P T σ hq hρ hf hX hw he
    have hXb := zCX_b hsh hw hX
    simp only [zhrm] at he
    refine b11_4 hi ⟨by omega, by rw [hX.1.2.2]; omega, fun hn => by rw [hX.1.2.2] at hn; omega, fun _ => ⟨by omega, by rw [hX.1.2.1]; omega, fun hle => ?_, fun hlt => ?_⟩⟩
    · rw [hX.1.2.1] at hle
      rw [if_pos hle] at he
      exact H1 ρ σ he.symm P T hf hX hw
    · rw [hX.1.2.1] at hlt
      rw [if_neg (by omega)] at he
      refine s12 hi hsh hXb hX.1 hX.2.2.1 hw.2.1 (by omega) (by omega) (fun P1 => b11_26 ⟨fun hrv => ?_, fun hrv => ?_⟩)
      · obtain ⟨z, hz⟩ : ∃ z, zsml r σ.2.1 q (h - ρ) ρ none 0 = some z := by
          cases hv : zsml r σ.2.1 q (h - ρ) ρ none 0 with
          | none => rw [hv] at hrv; exact absurd rfl hrv
          | some z => exact ⟨z, rfl⟩
        rcases (zsml_p hsh.1 hw.2.1 q _ _ _ _).1 z hz with h1 | ⟨z1, z2, z3⟩
        · cases h1
        · have hcf : zicl false σ.2.1 q ρ h = false := by
            cases hv : zicl false σ.2.1 q ρ h with
            | false => rfl
            | true => exact absurd (zicl_iff.mp hv z (by omega) z1) z3
          rw [if_neg (by rw [hcf]; decide)] at he
          have nz2 : zpvt r h d ρ q σ = none → oF = none := fun h => by rw [h] at he; exact he.symm
          have ab : ∀ υ, znz r h d ρ q υ ≠ none → True := fun _ _ => trivial
          refine s13 hi hsh (by omega) (by omega) hX hw ⟨z, z1, by omega, z3⟩ (fun τ eτ P2 T2 f1 f2 f3 f4 => b11_39 hi ⟨zCX_b hsh f3 f2, ?_⟩) (fun eτ P2 T2 f1 fX => H2 (nz2 (by unfold zpvt; rw [eτ, Option.bind_none, zclrs_none])) P2 T2 (zTo_t hf f1) fX)
          rw [zxat_e (zCX_b hsh f3 f2) f2.1 f2.2.2.1 f3.2.1 (by omega) (by omega), f2.1.1]
          have tail : ∀ ω, znz r h d ρ q τ = some ω → ∀ P3 T3, zTo i T0 T3 → zCX (T3 i) r h d O ω → zwf r h d O ω → zT zm_14 [.ref (21 + 8 * i), .int (Int32.ofNat ρ), .int (Int32.ofNat q)] p (zh (P3, T3, Y) I A w) (zK zm_11 75 [some (.ref (21 + 8 * i)), some (.int (Int32.ofNat ρ)), some (.int (Int32.ofNat q)), none, none] [] p Q) := by
            intro ω eω P3 T3 g1 g2 g3
            obtain ⟨_, n2, _, _⟩ := znz_w hsh.1 f3 (show ρ < h by omega) (show q < d by omega) f4 eω
            have e3 : zpvt r h d ρ q σ = zclrs r h d false ρ q ρ 0 (some ω) := by unfold zpvt; rw [eτ, Option.bind_some, eω]
            rw [e3] at he
            refine s14 hi hsh (by omega) (by omega) g2 g3 n2 (fun κ eκ P4 T4 k1 k2 k3 => b11_75 ?_) (fun eκ P4 T4 k1 fX => H2 (by rw [eκ] at he; exact he.symm) P4 T4 (zTo_t g1 k1) fX)
            rw [eκ] at he
            exact ih (q + 1) (ρ + 1) P4 T4 κ (by omega) (by omega) (zTo_t g1 k1) k2 k3 he
          refine c_nrm hsh.1 (f3.2.1.1 ρ q) (fun P3 => b11_52 hi ⟨fun hone => ?_, fun hone => ?_⟩)
          · exact tail τ (by unfold znz; rw [if_pos (zen_o.mp hone)]) P3 T2 (zTo_t hf f1) f2 f3
          · have hne : znrm r (τ.2.1 ρ q) ≠ (1, 0) := fun h => hone (zen_o.mpr h)
            have hsv := znz_sv (h := h) (d := d) (a := ρ) hsh.1 (by omega) (zun_nrm hsh.1 (f3.2.1.1 ρ q))
            refine s39 (s := (2, ρ, 0, znrm r (τ.2.1 ρ q))) hi hsh f2 f3 hsv rfl rfl rfl (fun ω eω P4 T4 k1 k2 => b11_69 ?_) (fun eω P4 T4 k1 fX => H2 (nz2 ?_) P4 T4 (zTo_t (zTo_t hf f1) k1) (zCX_b hsh f3 fX))
            · exact tail ω (by unfold znz; rw [if_neg hne]; exact eω) P4 T4 (zTo_t (zTo_t hf f1) k1) k2 (zdo_w hsh.1 f3 hsv eω)
            · unfold zpvt
              rw [eτ, Option.bind_some]
              unfold znz
              rw [if_neg hne, eω, zclrs_none]
      · have hnone : zsml r σ.2.1 q (h - ρ) ρ none 0 = none := by
          cases hv : zsml r σ.2.1 q (h - ρ) ρ none 0 with
          | none => rfl
          | some z =>
            rw [hv] at hrv
            rcases (zsml_p hsh.1 hw.2.1 q _ _ _ _).1 z hv with h1 | ⟨z1, z2, z3⟩
            · cases h1
            · exact absurd hrv (zob_n (by omega))
        have hct : zicl false σ.2.1 q ρ h = true := zicl_iff.mpr (fun k hk1 hk2 => ((zsml_p hsh.1 hw.2.1 q _ _ _ _).2 hnone).2 k hk2 (by omega))
        rw [if_pos hct] at he
        exact ih (q + 1) ρ P1 T σ (by omega) hρ hf hX hw he
/-- HermiteForm.reach -/
theorem s11 {P : zPt} {T : Nat → zX} {Y : zYt} {I : zIt} {A : zAt} {w : Nat → Int64} {p : Nat × Nat} {Q : zR → zH → Prop} {i r h d : Nat} {O : zMe} {σ : zFo} (hi : i < 6) (hsh : zsh r h d) (hX : zCX (T i) r h d O σ) (hw : zwf r h d O σ)
    (H1 : ∀ ρ τ, zhrm r h d d 0 0 σ = some (ρ, τ) → ∀ P' T', zTo i T T' → zCX (T' i) r h d O τ → zwf r h d O τ → Q (.inl (some (.int (Int32.ofNat ρ)))) (zh (P', T', Y) I A w)) (H2 : zhrm r h d d 0 0 σ = none → ∀ P' T', zTo i T T' → zXb (T' i) → Q (.inr 3) (zh (P', T', Y) I A w)) :
    zT zm_11 [.ref (21 + 8 * i)] p (zh (P, T, Y) I A w) Q := b11 (l11 (T0 := T) hi hsh H1 H2 d 0 0 P T σ (by omega) (by omega) zTo_r hX hw rfl)
