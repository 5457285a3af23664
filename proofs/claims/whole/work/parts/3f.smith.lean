/-! SMITH'S FORM in the middle -/
def zfn1 (r : Nat) (E : zMe) (i : Nat) : Nat → Nat → Option (Nat × Nat) × Int64 → Option (Nat × Nat) × Int64
  | 0, _, b => b
  | y + 1, x, b => zfn1 r E i y (x + 1) (if 0 < (zsz r (E i x)).toInt ∧ (b.1 = none ∨ zsz r (E i x) < b.2) then (some (i, x), zsz r (E i x)) else b)
def zfn2 (r : Nat) (E : zMe) (t d : Nat) : Nat → Nat → Option (Nat × Nat) × Int64 → Option (Nat × Nat) × Int64
  | 0, _, b => b
  | y + 1, x, b => zfn2 r E t d y (x + 1) (zfn1 r E x (d - t) t b)
def zfnd (r h d : Nat) (E : zMe) (t : Nat) : Option (Nat × Nat) := (zfn2 r E t d (h - t) t (none, 0)).1
def zud1 (r : Nat) (E : zMe) (e : zE2) (i : Nat) : Nat → Nat → Bool
  | 0, _ => false
  | y + 1, x => if zrem r (E i x) e = some (0, 0) then zud1 r E e i y (x + 1) else true
def zud2 (r : Nat) (E : zMe) (t d : Nat) : Nat → Nat → Option Nat
  | 0, _ => none
  | y + 1, x => if zud1 r E (E t t) x (d - (t + 1)) (t + 1) = true then some x else zud2 r E t d y (x + 1)
def zund (r h d : Nat) (E : zMe) (t : Nat) : Option Nat := zud2 r E t d (h - (t + 1)) (t + 1)
def zbrg (r h d t i j : Nat) (σ : zFo) : Option zFo := (zswp r h d 0 t i σ).bind (zswp r h d 3 t j)
def zsmB (r h d t : Nat) (ch : Bool) (σ : zFo) : Option (Option zFo) := match ch with
  | true => match zfnd r h d σ.2.1 t with
    | none => none
    | some ij => some (zclrs r h d true t t (d - (t + 1)) (t + 1) (zclrs r h d false t t (h - (t + 1)) (t + 1) (zbrg r h d t ij.1 ij.2 σ)))
  | false => some (zclrs r h d true t t (d - (t + 1)) (t + 1) (some σ))
def zxcl (h d : Nat) (E : zMe) (t : Nat) : Bool := zicl false E t (t + 1) h && zicl true E t (t + 1) d
def zsmt (r h d : Nat) : Nat → Bool → Nat → zFo → Option (Nat × zFo)
  | 0, _, t, σ => some (t, σ)
  | n + 1, ch, t, σ => match zsmB r h d t ch σ with
    | none => some (t, σ)
    | some none => none
    | some (some τ) => if zxcl h d τ.2.1 t = false then zsmt r h d n true t τ else match zund r h d τ.2.1 t with
      | some i => match zdo r h d (1, t, i, (1, 0)) τ with
        | none => none
        | some υ => zsmt r h d n false t υ
      | none => match znz r h d t t τ with
        | none => none
        | some υ => zsmt r h d n true (t + 1) υ
theorem zfn1_p {r : Nat} (hr : zrg r) {h d : Nat} {E : zMe} (hE : zEw r h d E) (i : Nat) : ∀ (y x : Nat) (b : Option (Nat × Nat) × Int64), (∀ a c, (zfn1 r E i y x b).1 = some (a, c) → b.1 = some (a, c) ∨ (a = i ∧ x ≤ c ∧ c < x + y ∧ E a c ≠ (0, 0))) ∧ ((zfn1 r E i y x b).1 = none → b.1 = none ∧ ∀ k, x ≤ k → k < x + y → E i k = (0, 0)) ∧
    ((b.1 = none → b.2 = 0) → (b.1 ≠ none → 0 < b.2.toInt) → ((zfn1 r E i y x b).1 = none → (zfn1 r E i y x b).2 = 0) ∧ ((zfn1 r E i y x b).1 ≠ none → 0 < (zfn1 r E i y x b).2.toInt)) := by
  intro y
  induction y with
  | zero => intro x b; exact ⟨fun a c e => Or.inl e, fun e => ⟨e, fun k _ _ => by omega⟩, fun h1 h2 => ⟨h1, h2⟩⟩
  | succ y ih =>
    intro x b
    have hz := zsz_i hr (hE.1 i x)
    simp only [zfn1]
    split
    · rename_i hc
      have hne : E i x ≠ (0, 0) := fun e => by have := hz.2.mpr e; omega
      obtain ⟨i1, i2, i3⟩ := ih (x + 1) (some (i, x), zsz r (E i x))
      refine ⟨fun a c e => ?_, fun e => ?_, fun _ _ => i3 (fun h => by cases h) (fun _ => hc.1)⟩
      · rcases i1 a c e with h1 | ⟨h0, h1, h2, h3⟩
        · cases h1; exact Or.inr ⟨rfl, Nat.le_refl _, by omega, hne⟩
        · exact Or.inr ⟨h0, by omega, by omega, h3⟩
      · have := (i2 e).1; cases this
    · rename_i hc
      obtain ⟨i1, i2, i3⟩ := ih (x + 1) b
      refine ⟨fun a c e => ?_, fun e => ?_, i3⟩
      · rcases i1 a c e with h1 | ⟨h0, h1, h2, h3⟩
        · exact Or.inl h1
        · exact Or.inr ⟨h0, by omega, by omega, h3⟩
      · obtain ⟨j1, j2⟩ := i2 e
        refine ⟨j1, fun k hk1 hk2 => ?_⟩
        by_cases hk : k = x
        · subst hk
          refine hz.2.mp ?_
          have : ¬ 0 < (zsz r (E i k)).toInt := fun h => hc ⟨h, Or.inl j1⟩
          omega
        · exact j2 k (by omega) (by omega)
theorem zfn2_p {r : Nat} (hr : zrg r) {h d : Nat} {E : zMe} (hE : zEw r h d E) {t : Nat} (ht : t ≤ d) : ∀ (y x : Nat) (b : Option (Nat × Nat) × Int64), (∀ a c, (zfn2 r E t d y x b).1 = some (a, c) → b.1 = some (a, c) ∨ (x ≤ a ∧ a < x + y ∧ t ≤ c ∧ c < d ∧ E a c ≠ (0, 0))) ∧ ((zfn2 r E t d y x b).1 = none → b.1 = none ∧ ∀ a c, x ≤ a → a < x + y → t ≤ c → c < d → E a c = (0, 0)) ∧
    ((b.1 = none → b.2 = 0) → (b.1 ≠ none → 0 < b.2.toInt) → ((zfn2 r E t d y x b).1 = none → (zfn2 r E t d y x b).2 = 0) ∧ ((zfn2 r E t d y x b).1 ≠ none → 0 < (zfn2 r E t d y x b).2.toInt)) := by
  intro y
  induction y with
  | zero => intro x b; exact ⟨fun a c e => Or.inl e, fun e => ⟨e, fun a c _ _ => by omega⟩, fun h1 h2 => ⟨h1, h2⟩⟩
  | succ y ih =>
    intro x b
    simp only [zfn2]
    obtain ⟨j1, j2, j3⟩ := zfn1_p hr hE x (d - t) t b
    obtain ⟨i1, i2, i3⟩ := ih (x + 1) (zfn1 r E x (d - t) t b)
    refine ⟨fun a c e => ?_, fun e => ?_, fun h1 h2 => i3 (j3 h1 h2).1 (j3 h1 h2).2⟩
    · rcases i1 a c e with h1 | ⟨h1, h2, h3, h4, h5⟩
      · rcases j1 a c h1 with h1 | ⟨h0, h1, h2, h3⟩
        · exact Or.inl h1
        · exact Or.inr ⟨by omega, by omega, h1, by omega, h3⟩
      · exact Or.inr ⟨by omega, by omega, h3, h4, h5⟩
    · obtain ⟨k1, k2⟩ := i2 e
      obtain ⟨l1, l2⟩ := j2 k1
      refine ⟨l1, fun a c h1 h2 h3 h4 => ?_⟩
      by_cases ha : a = x
      · subst ha; exact l2 c h3 (by omega)
      · exact k2 a c (by omega) (by omega) h3 h4
theorem zfnd_s {r h d t : Nat} (hr : zrg r) {E : zMe} (hE : zEw r h d E) (ht : t ≤ d) {ij : Nat × Nat} (e : zfnd r h d E t = some ij) : t ≤ ij.1 ∧ ij.1 < h ∧ t ≤ ij.2 ∧ ij.2 < d ∧ E ij.1 ij.2 ≠ (0, 0) := by
  rcases (zfn2_p hr hE ht (h - t) t (none, 0)).1 ij.1 ij.2 e with h1 | ⟨h1, h2, h3, h4, h5⟩
  · cases h1
  · exact ⟨h1, by omega, h3, h4, h5⟩
theorem zfnd_n {r h d t : Nat} (hr : zrg r) {E : zMe} (hE : zEw r h d E) (ht : t ≤ d) (e : zfnd r h d E t = none) : ∀ a c, t ≤ a → a < h → t ≤ c → c < d → E a c = (0, 0) := fun a c h1 h2 h3 h4 => ((zfn2_p hr hE ht (h - t) t (none, 0)).2.1 e).2 a c h1 (by omega) h3 h4
theorem zud2_s {r : Nat} {E : zMe} {t d : Nat} : ∀ (y x i : Nat), zud2 r E t d y x = some i → x ≤ i ∧ i < x + y := by
  intro y
  induction y with
  | zero => intro x i e; cases e
  | succ y ih =>
    intro x i e
    simp only [zud2] at e
    split at e
    · cases e; omega
    · have := ih (x + 1) i e; omega
theorem zund_s {r h d t i : Nat} {E : zMe} (e : zund r h d E t = some i) : t < i ∧ i < h := by
  have := zud2_s _ _ _ e; omega
/-- a sum with 0 -/
theorem zplus_z {r : Nat} (hr : zrg r) {a f : zE2} (ha : zok r a) (hf : zok r f) : zplus r a f (0, 0) = some a := by
  rcases zrg_c hr with rfl | rfl | hq
  · have e := zpl0_i ha hf (zok_0 hr)
    rw [show ((0 : Int32), (0 : Int32)).1.toInt = 0 from rfl, Int.mul_zero, Int.add_zero] at e
    rw [zplus_some0 e ha.1 ha.2.1]
    congr 1
    exact Prod.ext (by show Int32.ofInt a.1.toInt = a.1; exact Int32.ofInt_toInt a.1) ha.2.2.symm
  · obtain ⟨e1, e2⟩ := zpl1_i ha hf (zok_0 hr)
    have z : Int32.toInt 0 = 0 := rfl
    have e1 := e1.trans (show a.1.toInt + f.1.toInt * Int32.toInt 0 - f.2.toInt * Int32.toInt 0 = a.1.toInt by rw [z, Int.mul_zero, Int.mul_zero, Int.add_zero, Int.sub_zero])
    have e2 := e2.trans (show a.2.toInt + f.1.toInt * Int32.toInt 0 + f.2.toInt * Int32.toInt 0 = a.2.toInt by rw [z, Int.mul_zero, Int.mul_zero, Int.add_zero, Int.add_zero])
    rw [zplus_some1 e1 e2 ha.1 ha.2.1 ha.2.2.1 ha.2.2.2]
    congr 1
    exact Prod.ext (by show Int32.ofInt a.1.toInt = a.1; exact Int32.ofInt_toInt a.1) (by show Int32.ofInt a.2.toInt = a.2; exact Int32.ofInt_toInt a.2)
  · have hq7 := zprm_lt hq
    obtain ⟨v, hv, rfl⟩ := (zok_p hq).mp ha
    obtain ⟨g, hg, rfl⟩ := (zok_p hq).mp hf
    have e := zplus_p hq hv hg (b := 0) (Nat.pow_pos (by omega))
    rw [show ((Int32.ofNat 0, (0 : Int32)) : zE2) = (0, 0) from rfl] at e
    rw [e]
    have hC : ∀ k, zcC r v g 0 k = if k < 8 then zcf r v k else 0 := by
      intro k
      unfold zcC
      rw [zcs_zero (fun i _ _ _ => by rw [zcf_0, Nat.mul_zero]), Nat.zero_mod, Nat.zero_add]
      split
      · exact Nat.mod_eq_of_lt (zcf_lt (by omega) v k)
      · exact Nat.zero_mod r
    have h8 : ¬ 8 < zdn (zcC r v g 0) 16 := by
      intro h8
      have := zdn_at (F := zcC r v g 0) (n := 16) (by omega)
      rw [hC, if_neg (by omega)] at this
      exact this rfl
    unfold zplP
    rw [if_neg h8]
    have : zho r (zcC r v g 0) 8 = v := by
      rw [zho_congr (G := zcf r v) (Nat.le_refl _) (fun k hk => by rw [hC k, if_pos hk]), zho_id hv]
    rw [this]
    rfl
theorem zbrg_w {r h d : Nat} (hr : zrg r) {O : zMe} {t i j : Nat} {σ τ : zFo} (hw : zwf r h d O σ) (ht : t < h) (hd : t < d) (hi : i < h) (hj : j < d) (hti : t ≤ i) (htj : t ≤ j) (e : zbrg r h d t i j σ = some τ) :
    zwf r h d O τ ∧ τ.2.1 t t = σ.2.1 i j ∧ σ.1 ≤ τ.1 ∧ (∀ a c, a < t → c < t → τ.2.1 a c = σ.2.1 a c) := by
  unfold zbrg at e
  cases h1 : zswp r h d 0 t i σ with
  | none => rw [h1] at e; cases e
  | some υ =>
    rw [h1, Option.bind_some] at e
    obtain ⟨w1, w2, w3, w4, _⟩ := zswp_w hr false hw (show i < h from hi) (show t < h from ht) h1
    obtain ⟨v1, v2, v3, v4, _⟩ := zswp_w hr true w1 (show j < d from hj) (show t < d from hd) e
    refine ⟨v1, ?_, by omega, fun a c ha hc => ?_⟩
    · have a1 : τ.2.1 t t = υ.2.1 t j := v2 t ht
      have a2 : υ.2.1 t j = σ.2.1 i j := w2 j hj
      rw [a1, a2]
    · have a1 : τ.2.1 a c = υ.2.1 a c := v4 c a (by omega) (by omega)
      have a2 : υ.2.1 a c = σ.2.1 a c := w4 a c (by omega) (by omega)
      rw [a1, a2]
/-- what a turn of Smith's way keeps -/
def zIn2 (h d : Nat) (ch : Bool) (t : Nat) (σ : zFo) : Prop := t ≤ h ∧ t ≤ d ∧ (ch = false → t < h ∧ t < d ∧ σ.2.1 t t ≠ (0, 0) ∧ zicl false σ.2.1 t (t + 1) h = true)
theorem zbes {r h d : Nat} (hr : zrg r) {O : zMe} {t : Nat} {σ τ : zFo} (hw : zwf r h d O σ) (ht : t < h) (hd : t < d) (hp : σ.2.1 t t ≠ (0, 0)) (e : zclrs r h d true t t (d - (t + 1)) (t + 1) (some σ) = some τ) :
    zwf r h d O τ ∧ τ.2.1 t t ≠ (0, 0) ∧ σ.1 ≤ τ.1 ∧ (∀ a, τ.2.1 a t = σ.2.1 a t) ∧ (σ.1 < τ.1 ∨ (τ = σ ∧ zicl true σ.2.1 t (t + 1) d = true)) ∧ (∀ a c, c < t → τ.2.1 a c = σ.2.1 a c) := by
  obtain ⟨v1, v2, v3, v4⟩ := zclrs_w hr (c := true) (show t < d from hd) (d - (t + 1)) (t + 1) σ τ (show t + 1 + (d - (t + 1)) ≤ d by omega) (Or.inl (by omega)) hw hp e
  have k : ∀ a, τ.2.1 a t = σ.2.1 a t := fun a => v2 t a (Or.inl (by omega))
  refine ⟨v1, by rw [k t]; exact hp, v3, k, ?_, fun a c hc => v2 c a (Or.inl (by omega))⟩
  rcases v4 (by omega) with h2 | ⟨h2, h3⟩
  · exact Or.inl h2
  · exact Or.inr ⟨h2, zicl_iff.mpr (fun q hq1 hq2 => h3 q hq2 (by omega))⟩
theorem zsmB_w {r h d : Nat} (hsh : zsh r h d) {O : zMe} {t : Nat} {ch : Bool} {σ τ : zFo} (hw : zwf r h d O σ) (hi : zIn2 h d ch t σ) (e : zsmB r h d t ch σ = some (some τ)) :
    zwf r h d O τ ∧ t < h ∧ t < d ∧ τ.2.1 t t ≠ (0, 0) ∧ σ.1 ≤ τ.1 ∧ (zxcl h d τ.2.1 t = false → σ.1 < τ.1) ∧ (∀ a c, a < t → c < t → τ.2.1 a c = σ.2.1 a c) := by
  obtain ⟨i1, i2, i3⟩ := hi
  cases ch with
  | false =>
    obtain ⟨j1, j2, j3, j4⟩ := i3 rfl
    have e : zclrs r h d true t t (d - (t + 1)) (t + 1) (some σ) = some τ := Option.some.inj e
    obtain ⟨b1, b2, b3, b4, b5, b6⟩ := zbes hsh.1 hw j1 j2 j3 e
    refine ⟨b1, j1, j2, b2, b3, fun hx => ?_, fun a c _ hc => b6 a c hc⟩
    rcases b5 with h1 | ⟨rfl, h1⟩
    · exact h1
    · exfalso
      unfold zxcl at hx
      rw [j4, h1] at hx
      cases hx
  | true =>
    unfold zsmB at e
    cases hf : zfnd r h d σ.2.1 t with
    | none => simp only [hf] at e; cases e
    | some ij =>
      simp only [hf] at e
      have e := Option.some.inj e
      obtain ⟨f1, f2, f3, f4, f5⟩ := zfnd_s hsh.1 hw.2.1 i2 hf
      cases h1 : zbrg r h d t ij.1 ij.2 σ with
      | none => rw [h1, zclrs_none, zclrs_none] at e; cases e
      | some σ1 =>
        rw [h1] at e
        obtain ⟨w1, w2, w3, w4⟩ := zbrg_w hsh.1 hw (show t < h by omega) (show t < d by omega) f2 f4 f1 f3 h1
        have hp1 : σ1.2.1 t t ≠ (0, 0) := by rw [w2]; exact f5
        cases h2 : zclrs r h d false t t (h - (t + 1)) (t + 1) (some σ1) with
        | none => rw [h2, zclrs_none] at e; cases e
        | some σ2 =>
          rw [h2] at e
          obtain ⟨v1, v2, v3, v4⟩ := zclrs_w hsh.1 (c := false) (show t < h by omega) (h - (t + 1)) (t + 1) σ1 σ2 (show t + 1 + (h - (t + 1)) ≤ h by omega) (Or.inl (by omega)) w1 hp1 h2
          have hp2 : σ2.2.1 t t ≠ (0, 0) := by
            have : σ2.2.1 t t = σ1.2.1 t t := v2 t t (Or.inl (by omega))
            rw [this]; exact hp1
          obtain ⟨b1, b2, b3, b4, b5, b6⟩ := zbes hsh.1 v1 (by omega) (by omega) hp2 e
          refine ⟨b1, by omega, by omega, b2, by omega, fun hx => ?_, fun a c ha hc => ?_⟩
          · rcases v4 (by omega) with h3 | ⟨rfl, h3⟩
            · omega
            · rcases b5 with h4 | ⟨rfl, h4⟩
              · omega
              · exfalso
                have h5 : zicl false τ.2.1 t (t + 1) h = true := zicl_iff.mpr (fun k hk1 hk2 => h3 k hk2 (by omega))
                unfold zxcl at hx
                rw [h5, h4] at hx
                cases hx
          · have a1 : σ2.2.1 a c = σ1.2.1 a c := v2 a c (Or.inl (by omega))
            rw [b6 a c hc, a1, w4 a c ha hc]
/-- the step behind an entry that the pivot doesn't divide -/
theorem zadd1 {r h d : Nat} (hsh : zsh r h d) {O : zMe} {t i : Nat} {σ τ : zFo} (hw : zwf r h d O σ) (hti : t < i) (hi : i < h) (hd : t < d) (hp : σ.2.1 t t ≠ (0, 0)) (hc : zicl false σ.2.1 t (t + 1) h = true) (e : zdo r h d (1, t, i, (1, 0)) σ = some τ) :
    zwf r h d O τ ∧ zIn2 h d false t τ ∧ τ.1 = σ.1 + 1 ∧ (∀ a c, a < t → c < t → τ.2.1 a c = σ.2.1 a c) := by
  have k : ∀ a c, a ≠ t → τ.2.1 a c = σ.2.1 a c := fun a c ha => zdo_keep e c (l := a) ha (Or.inl (by show 1 % 3 ≠ 0; decide))
  have hz : σ.2.1 i t = (0, 0) := zicl_iff.mp hc i hi (by omega)
  have hE := zdo_E e t t
  have h1 : zap1 r σ.2.1 (1, t, i, (1, 0)) t = some (σ.2.1 t t) := by
    show zplus r (σ.2.1 t t) (1, 0) (σ.2.1 i t) = _
    rw [hz]
    exact zplus_z hsh.1 (hw.2.1.1 t t) (zok_1 hsh.1)
  have hE2 : τ.2.1 t t = σ.2.1 t t := hE.trans (zapL_i (s := (1, t, i, (1, 0))) (show t < d from hd) h1)
  refine ⟨zdo_w hsh.1 hw (zadd_sv (c := false) (show t < h by omega) hi (by omega) (zok_1 hsh.1)) e, ⟨by omega, by omega, fun _ => ⟨by omega, hd, by rw [hE2]; exact hp, zicl_iff.mpr (fun q hq1 hq2 => ?_)⟩⟩, zdo_c e, fun a c ha hc => k a c (by omega)⟩
  have a1 : τ.2.1 q t = σ.2.1 q t := k q t (by omega)
  show τ.2.1 q t = (0, 0)
  rw [a1]
  exact zicl_iff.mp hc q hq1 hq2
theorem zxcl_t {h d : Nat} {E : zMe} {t : Nat} (e : zxcl h d E t = true) : zicl false E t (t + 1) h = true ∧ zicl true E t (t + 1) d = true := by
  unfold zxcl at e
  rwa [Bool.and_eq_true] at e
theorem zsmt_w {r h d : Nat} (hsh : zsh r h d) {O : zMe} : ∀ (n : Nat) (ch : Bool) (t t' : Nat) (σ τ : zFo), 205 ≤ n + σ.1 + t → zwf r h d O σ → zIn2 h d ch t σ → (∀ k, k < t → σ.2.1 k k ≠ (0, 0)) → zsmt r h d n ch t σ = some (t', τ) →
    zwf r h d O τ ∧ t' ≤ h ∧ t' ≤ d ∧ (∀ k, k < t' → τ.2.1 k k ≠ (0, 0)) ∧ zfnd r h d τ.2.1 t' = none := by
  intro n
  induction n with
  | zero => intro ch t t' σ τ hn hw hi; have := hw.1; have := hi.1; have := hsh.2.2.1; omega
  | succ n ih =>
    intro ch t t' σ τ hn hw hi hk e
    simp only [zsmt] at e
    cases hB : zsmB r h d t ch σ with
    | none =>
      simp only [hB] at e
      cases e
      cases ch with
      | false => cases hB
      | true =>
        unfold zsmB at hB
        cases hf : zfnd r h d σ.2.1 t with
        | none => refine ⟨hw, hi.1, hi.2.1, hk, ?_⟩; first | exact hf | rfl
        | some ij => simp only [hf] at hB; cases hB
    | some o =>
      cases o with
      | none => simp only [hB] at e; cases e
      | some υ =>
        simp only [hB] at e
        obtain ⟨b1, b2, b3, b4, b5, b6, b7⟩ := zsmB_w hsh hw hi hB
        have hk1 : ∀ k, k < t → υ.2.1 k k ≠ (0, 0) := fun k hkt => by rw [b7 k k hkt hkt]; exact hk k hkt
        split at e
        · rename_i hx
          have := b6 hx
          exact ih true t t' υ τ (by omega) b1 ⟨hi.1, hi.2.1, fun h => by cases h⟩ hk1 e
        · rename_i hx
          have hx : zxcl h d υ.2.1 t = true := by rw [Bool.not_eq_false] at hx; exact hx
          obtain ⟨x1, x2⟩ := zxcl_t hx
          cases hu : zund r h d υ.2.1 t with
          | some i =>
            simp only [hu] at e
            obtain ⟨u1, u2⟩ := zund_s hu
            cases ha : zdo r h d (1, t, i, (1, 0)) υ with
            | none => simp only [ha] at e; cases e
            | some ω =>
              simp only [ha] at e
              obtain ⟨a1, a2, a3, a4⟩ := zadd1 hsh b1 u1 u2 b3 b4 x1 ha
              exact ih false t t' ω τ (by omega) a1 a2 (fun k hkt => by rw [a4 k k hkt hkt]; exact hk1 k hkt) e
          | none =>
            simp only [hu] at e
            cases ha : znz r h d t t υ with
            | none => simp only [ha] at e; cases e
            | some ω =>
              simp only [ha] at e
              obtain ⟨n1, n2, n3, n4⟩ := znz_w hsh.1 b1 b2 b3 b4 ha
              refine ih true (t + 1) t' ω τ (by omega) n1 ⟨by omega, by omega, fun h => by cases h⟩ (fun k hkt => ?_) e
              by_cases hkk : k = t
              · subst hkk; exact n2
              · rw [n4 k k hkk]; exact hk1 k (by omega)
