/-! HERMITE'S FORM in the middle -/
def zclr (r h d : Nat) (c : Bool) (i t q : Nat) (σ : zFo) : Option zFo :=
  if zlg c σ.2.1 i q = (0, 0) then some σ else if zquo r (zlg c σ.2.1 i q) (zlg c σ.2.1 t q) = (0, 0) ∧ c = false ∧ i < t then some σ else
  zdo r h d (bif c then 4 else 1, i, t, zneg r (zquo r (zlg c σ.2.1 i q) (zlg c σ.2.1 t q))) σ
def zclrs (r h d : Nat) (c : Bool) (t q : Nat) : Nat → Nat → Option zFo → Option zFo
  | 0, _, o => o
  | y + 1, x, o => zclrs r h d c t q y (x + 1) (o.bind (zclr r h d c x t q))
def zicl (c : Bool) (E : zMe) (q a n : Nat) : Bool := decide (∀ k, k < n → a ≤ k → zlg c E k q = (0, 0))
def zsml (r : Nat) (E : zMe) (q : Nat) : Nat → Nat → Option Nat → Int64 → Option Nat
  | 0, _, b, _ => b
  | y + 1, x, b, l => if 0 < (zsz r (E x q)).toInt ∧ (b = none ∨ zsz r (E x q) < l) then zsml r E q y (x + 1) (some x) (zsz r (E x q)) else zsml r E q y (x + 1) b l
def zob (b : Option Nat) : Int32 := match b with
  | none => -1
  | some k => Int32.ofNat k
def zswp (r h d k ρ i : Nat) (σ : zFo) : Option zFo := if i = ρ then some σ else zdo r h d (k, ρ, i, (0, 0)) σ
def zpvl (r h d ρ q : Nat) : Nat → zFo → Option zFo
  | 0, _ => none
  | n + 1, σ => match zsml r σ.2.1 q (h - ρ) ρ none 0 with
    | none => none
    | some i => match zclrs r h d false ρ q (h - (ρ + 1)) (ρ + 1) (zswp r h d 0 ρ i σ) with
      | none => none
      | some τ => if zicl false τ.2.1 q (ρ + 1) h = true then some τ else zpvl r h d ρ q n τ
def znz (r h d a b : Nat) (σ : zFo) : Option zFo := if znrm r (σ.2.1 a b) = (1, 0) then some σ else zdo r h d (2, a, 0, znrm r (σ.2.1 a b)) σ
def zpvt (r h d ρ q : Nat) (σ : zFo) : Option zFo := zclrs r h d false ρ q ρ 0 ((zpvl r h d ρ q 201 σ).bind (znz r h d ρ q))
def zhrm (r h d : Nat) : Nat → Nat → Nat → zFo → Option (Nat × zFo)
  | 0, _, ρ, σ => some (ρ, σ)
  | y + 1, q, ρ, σ => if h ≤ ρ then some (ρ, σ) else if zicl false σ.2.1 q ρ h = true then zhrm r h d y (q + 1) ρ σ else match zpvt r h d ρ q σ with
    | none => none
    | some τ => zhrm r h d y (q + 1) (ρ + 1) τ
theorem zclrs_none {r h d : Nat} {c : Bool} {t q : Nat} : ∀ (y x : Nat), zclrs r h d c t q y x none = none := by
  intro y
  induction y with
  | zero => intro x; rfl
  | succ y ih => intro x; exact ih (x + 1)
theorem zicl_iff {c : Bool} {E : zMe} {q a n : Nat} : zicl c E q a n = true ↔ ∀ k, k < n → a ≤ k → zlg c E k q = (0, 0) := by
  unfold zicl; rw [decide_eq_true_iff]
/-- which entries a step changes -/
theorem zdo_E {r h d : Nat} {s : zSt} {σ τ : zFo} (e : zdo r h d s σ = some τ) (l q : Nat) : zlg (zkc s) τ.2.1 l q = zapL r (zplc h d (zkc s)) σ.2.1 s l q := by
  obtain ⟨_, E, hE, rfl⟩ := zdo_some e
  obtain ⟨_, rfl⟩ := zap_some hE
  exact zlg_E _ _ _ _ _ _
theorem zdo_keep {r h d : Nat} {s : zSt} {σ τ : zFo} (e : zdo r h d s σ = some τ) {l : Nat} (q : Nat) (h1 : l ≠ s.2.1) (h0 : s.1 % 3 ≠ 0 ∨ l ≠ s.2.2.1) : zlg (zkc s) τ.2.1 l q = zlg (zkc s) σ.2.1 l q := by
  rw [zdo_E e, zapL_o h1 h0]
theorem zadd_sv {r h d : Nat} {c : Bool} {i t : Nat} {f : zE2} (hi : i < zll h d c) (ht : t < zll h d c) (hit : i ≠ t) (hf : zok r f) : zsv r h d (bif c then 4 else 1, i, t, f) := by
  cases c
  · exact ⟨by show 1 < 6; omega, hi, fun _ => ⟨ht, fun h => hit h.symm⟩, fun h => absurd (show 1 % 3 = 2 from h) (by decide), hf, fun h => absurd (show 1 % 3 = 0 from h) (by decide)⟩
  · exact ⟨by show 4 < 6; omega, hi, fun _ => ⟨ht, fun h => hit h.symm⟩, fun h => absurd (show 4 % 3 = 2 from h) (by decide), hf, fun h => absurd (show 4 % 3 = 0 from h) (by decide)⟩
theorem zadd_kc {c : Bool} {i t : Nat} {f : zE2} : zkc (bif c then 4 else 1, i, t, f) = c := by cases c <;> rfl
theorem zadd_3 {c : Bool} {i t : Nat} {f : zE2} : (bif c then 4 else 1, i, t, f).1 % 3 = 1 := by
  cases c
  · show 1 % 3 = 1; rfl
  · show 4 % 3 = 1; rfl
theorem zswp_sv {r h d ρ i : Nat} (hr : zrg r) (c : Bool) (hi : i < zll h d c) (ht : ρ < zll h d c) (hit : i ≠ ρ) : zsv r h d (bif c then 3 else 0, ρ, i, (0, 0)) := by
  cases c
  · exact ⟨by show 0 < 6; omega, ht, fun _ => ⟨hi, hit⟩, fun h => absurd (show 0 % 3 = 2 from h) (by decide), zok_0 hr, fun _ => rfl⟩
  · exact ⟨by show 3 < 6; omega, ht, fun _ => ⟨hi, hit⟩, fun h => absurd (show 3 % 3 = 2 from h) (by decide), zok_0 hr, fun _ => rfl⟩
theorem znz_sv {r h d a : Nat} {f : zE2} (hr : zrg r) (ha : a < h) (hf : zun r f) : zsv r h d (2, a, 0, f) := ⟨by show 2 < 6; omega, ha, fun h => absurd rfl h, fun _ => ⟨rfl, hf⟩, zun_ok hr hf, fun h => absurd (show 2 % 3 = 0 from h) (by decide)⟩
theorem zclr_sv {r h d : Nat} (hr : zrg r) {c : Bool} {i t q : Nat} {E : zMe} (hE : zEw r h d E) (hi : i < zll h d c) (ht : t < zll h d c) (hit : i ≠ t) (hp : zlg c E t q ≠ (0, 0)) : zsv r h d (bif c then 4 else 1, i, t, zneg r (zquo r (zlg c E i q) (zlg c E t q))) :=
  zadd_sv hi ht hit (zok_neg hr (zok_quo hr (zlg_ok hE _ _ _) (zlg_ok hE _ _ _) hp))
theorem zclr_w {r h d : Nat} (hr : zrg r) {O : zMe} {c : Bool} {i t q : Nat} {σ τ : zFo} (hw : zwf r h d O σ) (hi : i < zll h d c) (ht : t < zll h d c) (hit : i ≠ t) (hp : zlg c σ.2.1 t q ≠ (0, 0)) (e : zclr r h d c i t q σ = some τ) :
    zwf r h d O τ ∧ (∀ l p, l ≠ i → zlg c τ.2.1 l p = zlg c σ.2.1 l p) ∧ σ.1 ≤ τ.1 ∧ (¬ i < t → σ.1 < τ.1 ∨ (τ = σ ∧ zlg c σ.2.1 i q = (0, 0))) := by
  unfold zclr at e
  split at e
  · rename_i h0; cases e; exact ⟨hw, fun l p _ => rfl, Nat.le_refl _, fun _ => Or.inr ⟨rfl, h0⟩⟩
  · split at e
    · rename_i h0 h1; cases e; exact ⟨hw, fun l p _ => rfl, Nat.le_refl _, fun h => absurd h1.2.2 h⟩
    · refine ⟨zdo_w hr hw (zclr_sv hr hw.2.1 hi ht hit hp) e, fun l p hl => ?_, by rw [zdo_c e]; omega, fun _ => Or.inl (by rw [zdo_c e]; omega)⟩
      have := zdo_keep e p (l := l) hl (Or.inl (by rw [zadd_3]; decide))
      rw [zadd_kc] at this
      exact this
theorem zclrs_w {r h d : Nat} (hr : zrg r) {O : zMe} {c : Bool} {t q : Nat} (ht : t < zll h d c) : ∀ (y x : Nat) (σ τ : zFo), x + y ≤ zll h d c → (t < x ∨ x + y ≤ t) → zwf r h d O σ → zlg c σ.2.1 t q ≠ (0, 0) → zclrs r h d c t q y x (some σ) = some τ →
    zwf r h d O τ ∧ (∀ l p, (l < x ∨ x + y ≤ l) → zlg c τ.2.1 l p = zlg c σ.2.1 l p) ∧ σ.1 ≤ τ.1 ∧ (t < x → σ.1 < τ.1 ∨ (τ = σ ∧ ∀ k, x ≤ k → k < x + y → zlg c σ.2.1 k q = (0, 0))) := by
  intro y
  induction y with
  | zero => intro x σ τ _ _ hw hp e; cases e; exact ⟨hw, fun l p _ => rfl, Nat.le_refl _, fun _ => Or.inr ⟨rfl, fun k _ _ => by omega⟩⟩
  | succ y ih =>
    intro x σ τ hx hxt hw hp e
    simp only [zclrs, Option.bind_some] at e
    cases hz : zclr r h d c x t q σ with
    | none => rw [hz, zclrs_none] at e; cases e
    | some υ =>
      rw [hz] at e
      obtain ⟨w1, w2, w3, w4⟩ := zclr_w hr hw (by omega) ht (by omega) hp hz
      obtain ⟨v1, v2, v3, v4⟩ := ih (x + 1) υ τ (by omega) (by omega) w1 (by rw [w2 t q (by omega)]; exact hp) e
      refine ⟨v1, fun l p hl => by rw [v2 l p (by omega), w2 l p (by omega)], by omega, fun htx => ?_⟩
      rcases w4 (by omega) with h1 | ⟨rfl, h1⟩
      · left; omega
      · rcases v4 (by omega) with h2 | ⟨rfl, h2⟩
        · left; exact h2
        · right
          refine ⟨rfl, fun k hk1 hk2 => ?_⟩
          by_cases hk : k = x
          · subst hk; exact h1
          · exact h2 k (by omega) (by omega)
theorem zsml_p {r : Nat} (hr : zrg r) {h d : Nat} {E : zMe} (hE : zEw r h d E) (q : Nat) : ∀ (y x : Nat) (b : Option Nat) (l : Int64), (∀ i, zsml r E q y x b l = some i → b = some i ∨ (x ≤ i ∧ i < x + y ∧ E i q ≠ (0, 0))) ∧ (zsml r E q y x b l = none → b = none ∧ ∀ k, x ≤ k → k < x + y → E k q = (0, 0)) := by
  intro y
  induction y with
  | zero => intro x b l; exact ⟨fun i e => Or.inl e, fun e => ⟨e, fun k _ _ => by omega⟩⟩
  | succ y ih =>
    intro x b l
    have hz := zsz_i hr (hE.1 x q)
    simp only [zsml]
    split
    · rename_i hc
      have hne : E x q ≠ (0, 0) := fun e => by have := hz.2.mpr e; omega
      obtain ⟨i1, i2⟩ := ih (x + 1) (some x) (zsz r (E x q))
      refine ⟨fun i e => ?_, fun e => ?_⟩
      · rcases i1 i e with h1 | ⟨h1, h2, h3⟩
        · cases h1; exact Or.inr ⟨Nat.le_refl _, by omega, hne⟩
        · exact Or.inr ⟨by omega, by omega, h3⟩
      · have := (i2 e).1; cases this
    · rename_i hc
      obtain ⟨i1, i2⟩ := ih (x + 1) b l
      refine ⟨fun i e => ?_, fun e => ?_⟩
      · rcases i1 i e with h1 | ⟨h1, h2, h3⟩
        · exact Or.inl h1
        · exact Or.inr ⟨by omega, by omega, h3⟩
      · obtain ⟨j1, j2⟩ := i2 e
        refine ⟨j1, fun k hk1 hk2 => ?_⟩
        by_cases hk : k = x
        · subst hk
          refine hz.2.mp ?_
          have : ¬ 0 < (zsz r (E k q)).toInt := fun h => hc ⟨h, Or.inl j1⟩
          omega
        · exact j2 k (by omega) (by omega)
theorem zswp_w {r h d : Nat} (hr : zrg r) {O : zMe} (c : Bool) {ρ i : Nat} {σ τ : zFo} (hw : zwf r h d O σ) (hi : i < zll h d c) (ht : ρ < zll h d c) (e : zswp r h d (bif c then 3 else 0) ρ i σ = some τ) :
    zwf r h d O τ ∧ (∀ p, p < zplc h d c → zlg c τ.2.1 ρ p = zlg c σ.2.1 i p) ∧ σ.1 ≤ τ.1 ∧ (∀ l p, l ≠ ρ → l ≠ i → zlg c τ.2.1 l p = zlg c σ.2.1 l p) ∧ (i ≠ ρ → τ.1 = σ.1 + 1) := by
  unfold zswp at e
  split at e
  · rename_i h0; cases e; subst h0; exact ⟨hw, fun p _ => rfl, Nat.le_refl _, fun l p _ _ => rfl, fun h => absurd rfl h⟩
  · rename_i h0
    have kc : zkc (bif c then 3 else 0, ρ, i, ((0 : Int32), (0 : Int32))) = c := by cases c <;> rfl
    have k3 : (bif c then 3 else 0, ρ, i, ((0 : Int32), (0 : Int32))).1 % 3 = 0 := by
      cases c
      · show 0 % 3 = 0; rfl
      · show 3 % 3 = 0; rfl
    refine ⟨zdo_w hr hw (zswp_sv hr c hi ht h0) e, fun p hp => ?_, by rw [zdo_c e]; omega, fun l p h1 h2 => ?_, fun _ => zdo_c e⟩
    · have := zdo_E e ρ p
      rw [kc] at this
      rw [this]
      refine zapL_i (s := (bif c then 3 else 0, ρ, i, ((0 : Int32), (0 : Int32)))) hp ?_
      unfold zap1
      rw [if_pos k3, kc]
    · have := zdo_keep e p (l := l) h1 (Or.inr h2)
      rw [kc] at this
      exact this
/-- a unit times what isn't 0 -/
theorem zun_nz {r : Nat} (hr : zrg r) {f a v : zE2} (hf : zun r f) (ha : zok r a) (h0 : a ≠ (0, 0)) (e : zplus r (0, 0) f a = some v) : v ≠ (0, 0) := by
  rcases zrg_c hr with rfl | rfl | hq
  · have hfo := zun_ok hr hf
    have hi := zpl0_i (zok_0 hr) hfo ha
    rw [show ((0 : Int32), (0 : Int32)).1.toInt = 0 from rfl, Int.zero_add] at hi
    have a2 : a.2.toInt = 0 := by rw [ha.2.2]; rfl
    have a1 : a.1.toInt ≠ 0 := fun h => h0 (zE_0.mpr ⟨h, a2⟩)
    have hb := ha.1
    have hb2 := ha.2.1
    have hv : f.1.toInt * a.1.toInt = a.1.toInt ∨ f.1.toInt * a.1.toInt = -a.1.toInt := by
      rcases hf.1 with h | h
      · left; rw [h, show Int32.toInt 1 = 1 from rfl, Int.one_mul]
      · right; rw [h, show Int32.toInt (-1) = -1 from rfl, Int.neg_mul, Int.one_mul]
    rw [zplus_some0 hi (by omega) (by omega)] at e
    cases e
    intro h
    have := (zE_0.mp h).1
    rw [show (Int32.ofInt (f.1.toInt * a.1.toInt), (0 : Int32)).1 = Int32.ofInt (f.1.toInt * a.1.toInt) from rfl, zI_v (by omega) (by omega)] at this
    omega
  · have hfo := zun_ok hr hf
    obtain ⟨i1, i2⟩ := zpl1_i (zok_0 hr) hfo ha
    rw [show ((0 : Int32), (0 : Int32)).1.toInt = 0 from rfl, Int.zero_add] at i1
    rw [show ((0 : Int32), (0 : Int32)).2.toInt = 0 from rfl, Int.zero_add] at i2
    obtain ⟨b1, b2, b3, b4⟩ := ha
    have hne : ¬ (a.1.toInt = 0 ∧ a.2.toInt = 0) := fun h => h0 (zE_0.mpr h)
    have o1 : Int32.toInt 1 = 1 := rfl
    have om : Int32.toInt (-1) = -1 := rfl
    have oz : Int32.toInt 0 = 0 := rfl
    have key : -30000 ≤ f.1.toInt * a.1.toInt - f.2.toInt * a.2.toInt ∧ f.1.toInt * a.1.toInt - f.2.toInt * a.2.toInt ≤ 30000 ∧ -30000 ≤ f.1.toInt * a.2.toInt + f.2.toInt * a.1.toInt ∧ f.1.toInt * a.2.toInt + f.2.toInt * a.1.toInt ≤ 30000 ∧ ¬ (f.1.toInt * a.1.toInt - f.2.toInt * a.2.toInt = 0 ∧ f.1.toInt * a.2.toInt + f.2.toInt * a.1.toInt = 0) := by
      rcases hf with ⟨h1, h2 | h2⟩ | ⟨h2, h1 | h1⟩ <;> rw [h1, h2] <;> simp only [o1, om, oz] <;> omega
    rw [zplus_some1 i1 i2 key.1 key.2.1 key.2.2.1 key.2.2.2.1] at e
    cases e
    intro h
    have := zE_0.mp h
    rw [show ∀ x y : Int32, (x, y).1 = x from fun _ _ => rfl, show ∀ x y : Int32, (x, y).2 = y from fun _ _ => rfl, zI_v (by omega) (by omega), zI_v (by omega) (by omega)] at this
    exact key.2.2.2.2 this
  · have hq7 := zprm_lt hq
    obtain ⟨g, g1, g2, rfl⟩ := (zun_p hq).mp hf
    obtain ⟨u, hu, rfl⟩ := (zok_p hq).mp ha
    have hpw := zpw_lt hq
    have hu0 : u ≠ 0 := fun e => h0 (by rw [e]; rfl)
    have hg : g < r ^ 8 := Nat.lt_of_lt_of_le (show g < r ^ 1 by rw [Nat.pow_one]; exact g2) (Nat.pow_le_pow_right (by omega) (by decide))
    have e2 := zplus_p hq (a := 0) (Nat.pow_pos (by omega)) hg hu
    rw [show ((Int32.ofNat 0, (0 : Int32)) : zE2) = (0, 0) from rfl, e] at e2
    unfold zplP at e2
    split at e2
    · cases e2
    · cases e2
      intro h
      have hz : zho r (zcC r 0 g u) 8 = 0 := by
        have h8 := zho_lt (p := r) (by omega) (zcC r 0 g u) 8
        exact (zN_0 (by omega)).mp (congrArg Prod.fst h)
      have hD := zcf_nz (p := r) (by omega) hu hu0
      have hD8 := zdn_le (zcf r u) 8
      have hat := zdn_at hD
      have hk : zdn (zcf r u) 8 - 1 < 8 := by omega
      have hc := zcf_zho (p := r) (by omega) (zcC r 0 g u) hk
      rw [hz, zcf_0] at hc
      unfold zcC at hc
      rw [zcs_c hq g2, if_pos hk, if_pos hk, zcf_0, Nat.add_zero, Nat.mod_mod, Nat.mod_mod] at hc
      have hlt := zcf_lt (p := r) (by omega) u (zdn (zcf r u) 8 - 1)
      generalize zcf r u (zdn (zcf r u) 8 - 1) = c at *
      have all : ∀ q, (q = 2 ∨ q = 3 ∨ q = 5 ∨ q = 7) → ∀ g, g < q → ∀ c, c < q → g ≠ 0 → c ≠ 0 → g * c % q ≠ 0 := by
        intro q hq
        rcases hq with rfl | rfl | rfl | rfl <;> decide
      exact all r hq g g2 c hlt (by omega) hat hc.symm
theorem znz_w {r h d : Nat} (hr : zrg r) {O : zMe} {a b : Nat} {σ τ : zFo} (hw : zwf r h d O σ) (ha : a < h) (hb : b < d) (h0 : σ.2.1 a b ≠ (0, 0)) (e : znz r h d a b σ = some τ) :
    zwf r h d O τ ∧ τ.2.1 a b ≠ (0, 0) ∧ σ.1 ≤ τ.1 ∧ (∀ l p, l ≠ a → τ.2.1 l p = σ.2.1 l p) := by
  unfold znz at e
  split at e
  · cases e; exact ⟨hw, h0, Nat.le_refl _, fun l p _ => rfl⟩
  · have hu := zun_nrm hr (hw.2.1.1 a b)
    refine ⟨zdo_w hr hw (znz_sv hr ha hu) e, ?_, by rw [zdo_c e]; omega, fun l p hl => ?_⟩
    · have hE := zdo_E e a b
      obtain ⟨_, E, hE2, rfl⟩ := zdo_some e
      obtain ⟨hall, rfl⟩ := zap_some hE2
      have hs := hall b hb
      cases hv : zap1 r σ.2.1 (2, a, 0, znrm r (σ.2.1 a b)) b with
      | none => rw [hv] at hs; cases hs
      | some v =>
        have hval : (zapE r (zplc h d (zkc (2, a, 0, znrm r (σ.2.1 a b)))) σ.2.1 (2, a, 0, znrm r (σ.2.1 a b))) a b = v := hE.trans (zapL_i (s := (2, a, 0, znrm r (σ.2.1 a b))) hb hv)
        show (zapE r (zplc h d (zkc (2, a, 0, znrm r (σ.2.1 a b)))) σ.2.1 (2, a, 0, znrm r (σ.2.1 a b))) a b ≠ (0, 0)
        rw [hval]
        exact zun_nz hr hu (hw.2.1.1 a b) h0 hv
    · exact zdo_keep e p (l := l) hl (Or.inl (by show 2 % 3 ≠ 0; decide))
