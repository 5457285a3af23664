/-! THE CLASS'S Smith form -/
def zob1 (b : Option (Nat × Nat)) : Int32 := match b with
  | none => -1
  | some q => Int32.ofNat q.1
def zob2 (b : Option (Nat × Nat)) : Int32 := match b with
  | none => -1
  | some q => Int32.ofNat q.2
theorem l83c {T : Nat → zX} {Y : zYt} {I : zIt} {A : zAt} {w : Nat → Int64} {p : Nat × Nat} {Q : zR → zH → Prop} {i r h d t a : Nat} {E : zMe} (hi : i < 6) (hsh : zsh r h d) (hX : zXb (T i)) (hh : zCh (T i) r h d) (he : zCe (T i).2.2.2.2.1 E) (hE : zEw r h d E) (ha : a < h) : ∀ (y x : Nat) (b : Option (Nat × Nat) × Int64) (P : zPt), x + y = d → (∀ q, b.1 = some q → q.1 < 4 ∧ q.2 < 4) →
    (∀ P', (∀ q, (zfn1 r E a y x b).1 = some q → q.1 < 4 ∧ q.2 < 4) → zW zm_83 10 [some (.ref (21 + 8 * i)), some (.int (Int32.ofNat t)), some (.int (zob1 (zfn1 r E a y x b).1)), some (.int (zob2 (zfn1 r E a y x b).1)), some (.long (zfn1 r E a y x b).2), none, some (.int (Int32.ofNat (a + 1))), none, none, none] [] p (zh (P', T, Y) I A w) Q) →
    zW zm_83 22 [some (.ref (21 + 8 * i)), some (.int (Int32.ofNat t)), some (.int (zob1 b.1)), some (.int (zob2 b.1)), some (.long b.2), none, some (.int (Int32.ofNat a)), some (.int (Int32.ofNat x)), none, none] [] p (zh (P, T, Y) I A w) Q := by
  have h4 := hsh.2.2.1
  have h5 := hsh.2.2.2.2
  intro y
  induction y with
  | zero =>
    intro x b P hx hb H
    exact b83_22 hi ⟨by omega, by rw [hh.2.2]; omega, fun _ => H P hb, fun hn => by rw [hh.2.2] at hn; omega⟩
  | succ y ih =>
    intro x b P hx hb H
    refine b83_22 hi ⟨by omega, by rw [hh.2.2]; omega, fun hn => by rw [hh.2.2] at hn; omega, fun _ => ⟨hX, ?_⟩⟩
    rw [zxat_e hX hh he hE (by omega) (by omega), hh.1]
    refine c_size hsh.1 (hE.1 a x) (fun P' => ?_)
    have hz := zsz_i hsh.1 (hE.1 a x)
    have hle : ∀ a b : Int64, a ≤ b ↔ a.toInt ≤ b.toInt := fun a b => Int64.le_iff_toInt_le
    have hlt : ∀ a b : Int64, a < b ↔ a.toInt < b.toInt := fun a b => Int64.lt_iff_toInt_lt
    have z0 : zsz r (E a x) = 0 ↔ (zsz r (E a x)).toInt = 0 := by rw [← Int64.toInt_inj]; rfl
    have take : (0 < (zsz r (E a x)).toInt ∧ (b.1 = none ∨ zsz r (E a x) < b.2)) → zW zm_83 22 [some (.ref (21 + 8 * i)), some (.int (Int32.ofNat t)), some (.int (Int32.ofNat a)), some (.int (Int32.ofNat x)), some (.long (zsz r (E a x))), none, some (.int (Int32.ofNat a)), some (.int (Int32.ofNat (x + 1))), none, none] [] p (zh (P', T, Y) I A w) Q := by
      intro hc
      simp only [zfn1] at H
      rw [if_pos hc] at H
      exact ih (x + 1) (some (a, x), zsz r (E a x)) P' (by omega) (fun q hq => by cases hq; exact ⟨by show a < 4; omega, by show x < 4; omega⟩) H
    have keep : ¬ (0 < (zsz r (E a x)).toInt ∧ (b.1 = none ∨ zsz r (E a x) < b.2)) → zW zm_83 22 [some (.ref (21 + 8 * i)), some (.int (Int32.ofNat t)), some (.int (zob1 b.1)), some (.int (zob2 b.1)), some (.long b.2), none, some (.int (Int32.ofNat a)), some (.int (Int32.ofNat (x + 1))), none, none] [] p (zh (P', T, Y) I A w) Q := by
      intro hc
      simp only [zfn1] at H
      rw [if_neg hc] at H
      exact ih (x + 1) b P' (by omega) hb H
    refine b83_46 ⟨fun c0 => keep (fun hc => ?_), fun c0 => ⟨fun c1 => take ⟨?_, ?_⟩, fun c1 => ⟨fun c2 => keep (fun hc => ?_), fun c2 => take ⟨?_, ?_⟩⟩⟩⟩
    · rw [z0] at c0; omega
    · rw [z0] at c0; omega
    · left
      cases hv : b.1 with
      | none => rfl
      | some k => rw [hv] at c1; exact absurd c1 (zob_n (by have := (hb k hv).1; omega))
    · rcases hc.2 with h2 | h2
      · rw [h2] at c1; exact absurd rfl c1
      · rw [hlt] at h2; rw [hle] at c2; omega
    · rw [z0] at c0; omega
    · right; rw [hlt]; rw [hle] at c2; omega
theorem l83 {T : Nat → zX} {Y : zYt} {I : zIt} {A : zAt} {w : Nat → Int64} {p : Nat × Nat} {Q : zR → zH → Prop} {i r h d t : Nat} {O : zMe} {σ : zFo} (hi : i < 6) (hsh : zsh r h d) (hX : zCX (T i) r h d O σ) (hw : zwf r h d O σ) (ht : t ≤ h) (htd : t ≤ d)
    (H0 : zfnd r h d σ.2.1 t = none → ∀ P', Q (.inl (some (.int 0))) (zh (P', T, Y) I A w))
    (H1 : ∀ ij, zfnd r h d σ.2.1 t = some ij → ∀ τ, zbrg r h d t ij.1 ij.2 σ = some τ → ∀ P' T', zTo i T T' → zCX (T' i) r h d O τ → Q (.inl (some (.int 1))) (zh (P', T', Y) I A w))
    (H2 : ∀ ij, zfnd r h d σ.2.1 t = some ij → zbrg r h d t ij.1 ij.2 σ = none → ∀ P' T', zTo i T T' → zXb (T' i) → Q (.inr 3) (zh (P', T', Y) I A w)) :
    ∀ (y x : Nat) (b : Option (Nat × Nat) × Int64) (P : zPt), x + y = h → (∀ q, b.1 = some q → q.1 < 4 ∧ q.2 < 4) → (zfn2 r σ.2.1 t d y x b).1 = zfnd r h d σ.2.1 t →
    zW zm_83 10 [some (.ref (21 + 8 * i)), some (.int (Int32.ofNat t)), some (.int (zob1 b.1)), some (.int (zob2 b.1)), some (.long b.2), none, some (.int (Int32.ofNat x)), none, none, none] [] p (zh (P, T, Y) I A w) Q := by
  have h4 := hsh.2.2.1
  have h5 := hsh.2.2.2.2
  have hXb := zCX_b hsh hw hX
  intro y
  induction y with
  | zero =>
    intro x b P hx hb he
    have he : b.1 = zfnd r h d σ.2.1 t := he
    refine b83_10 hi ⟨by omega, by rw [hX.1.2.1]; omega, fun _ => ?_, fun hn => by rw [hX.1.2.1] at hn; omega⟩
    cases hv : b.1 with
    | none =>
      rw [hv] at he
      exact ⟨fun h => absurd rfl h, fun _ => H0 he.symm P⟩
    | some ij =>
      rw [hv] at he
      obtain ⟨q1, q2⟩ := hb ij hv
      obtain ⟨f1, f2, f3, f4, f5⟩ := zfnd_s hsh.1 hw.2.1 htd he.symm
      have H1 := H1 ij he.symm
      have H2 := H2 ij he.symm
      have inj : ∀ {a : Nat}, a < 4 → Int32.ofNat a = Int32.ofNat t → a = t := fun ha h => zN_inj (by omega) (by omega) h
      have col : ∀ τ, zswp r h d 0 t ij.1 σ = some τ → ∀ P' T', zTo i T T' → zCX (T' i) r h d O τ → zwf r h d O τ → ij.2 ≠ t → zT zm_39 [.ref (21 + 8 * i), .int (3 : Int32), .int (Int32.ofNat t), .int (Int32.ofNat ij.2), .long (0 : Int64)] p (zh (P', T', Y) I A w) (zK zm_83 123 [none, none, none, none, none, none, none, none, none, none] [] p Q) := by
        intro τ eτ P' T' g1 g2 g3 hne
        rw [← zen_0]
        refine s39 (s := (3, t, ij.2, (0, 0))) hi hsh g2 g3 (zswp_sv hsh.1 true (show ij.2 < d by omega) (show t < d by omega) hne) rfl rfl (zsj_n (s := (3, t, ij.2, (0, 0))) (show 3 % 3 ≠ 2 by decide)).symm (fun υ eυ P2 T2 k1 k2 => b83_123 (H1 υ ?_ P2 T2 (zTo_t g1 k1) k2)) (fun eυ P2 T2 k1 fX => H2 ?_ P2 T2 (zTo_t g1 k1) (zCX_b hsh g3 fX))
        · unfold zbrg; rw [eτ, Option.bind_some]; unfold zswp; rw [if_neg hne]; exact eυ
        · unfold zbrg; rw [eτ, Option.bind_some]; unfold zswp; rw [if_neg hne]; exact eυ
      refine ⟨fun _ => ⟨fun hr1 => ?_, fun hr1 => ?_⟩, fun h => absurd h (zob_n (by omega))⟩
      · have e1 : zswp r h d 0 t ij.1 σ = some σ := by unfold zswp; rw [if_pos (inj (by omega) hr1)]
        refine ⟨fun hc1 => ?_, fun hc1 => ?_⟩
        · refine H1 σ ?_ P T zTo_r hX
          unfold zbrg; rw [e1, Option.bind_some]; unfold zswp; rw [if_pos (inj (by omega) hc1)]
        · exact col σ e1 P T zTo_r hX hw (fun h => hc1 (by show Int32.ofNat ij.2 = Int32.ofNat t; rw [h]))
      · have hne : ij.1 ≠ t := fun h => hr1 (by show Int32.ofNat ij.1 = Int32.ofNat t; rw [h])
        have hsv := zswp_sv (r := r) (h := h) (d := d) hsh.1 false (show ij.1 < h by omega) (show t < h by omega) hne
        rw [← zen_0]
        refine s39 (s := (0, t, ij.1, (0, 0))) hi hsh hX hw hsv rfl rfl rfl (fun υ eυ P2 T2 k1 k2 => ?_) (fun eυ P2 T2 k1 fX => H2 ?_ P2 T2 k1 (zCX_b hsh hw fX))
        · have e1 : zswp r h d 0 t ij.1 σ = some υ := by unfold zswp; rw [if_neg hne]; exact eυ
          refine b83_110 hi ⟨fun hc1 => H1 υ ?_ P2 T2 k1 k2, fun hc1 => ?_⟩
          · unfold zbrg; rw [e1, Option.bind_some]; unfold zswp; rw [if_pos (inj (by omega) hc1)]
          · rw [show (0 : Int64) = 0 from rfl]
            exact col υ e1 P2 T2 k1 k2 (zdo_w hsh.1 hw hsv eυ) (fun h => hc1 (by show Int32.ofNat ij.2 = Int32.ofNat t; rw [h]))
        · unfold zbrg
          have e1 : zswp r h d 0 t ij.1 σ = none := by unfold zswp; rw [if_neg hne]; exact eυ
          rw [e1]; rfl
  | succ y ih =>
    intro x b P hx hb he
    refine b83_10 hi ⟨by omega, by rw [hX.1.2.1]; omega, fun hn => by rw [hX.1.2.1] at hn; omega, fun _ => ?_⟩
    exact l83c hi hsh hXb hX.1 hX.2.2.1 hw.2.1 (by omega) (d - t) t b P (by omega) hb (fun P' hb' => ih (x + 1) _ P' (by omega) hb' he)
theorem s83 {P : zPt} {T : Nat → zX} {Y : zYt} {I : zIt} {A : zAt} {w : Nat → Int64} {p : Nat × Nat} {Q : zR → zH → Prop} {i r h d t : Nat} {O : zMe} {σ : zFo} (hi : i < 6) (hsh : zsh r h d) (hX : zCX (T i) r h d O σ) (hw : zwf r h d O σ) (ht : t ≤ h) (htd : t ≤ d)
    (H0 : zfnd r h d σ.2.1 t = none → ∀ P', Q (.inl (some (.int 0))) (zh (P', T, Y) I A w))
    (H1 : ∀ ij, zfnd r h d σ.2.1 t = some ij → ∀ τ, zbrg r h d t ij.1 ij.2 σ = some τ → ∀ P' T', zTo i T T' → zCX (T' i) r h d O τ → Q (.inl (some (.int 1))) (zh (P', T', Y) I A w))
    (H2 : ∀ ij, zfnd r h d σ.2.1 t = some ij → zbrg r h d t ij.1 ij.2 σ = none → ∀ P' T', zTo i T T' → zXb (T' i) → Q (.inr 3) (zh (P', T', Y) I A w)) : zT zm_83 [.ref (21 + 8 * i), .int (Int32.ofNat t)] p (zh (P, T, Y) I A w) Q :=
  b83 (l83 hi hsh hX hw ht htd H0 H1 H2 (h - t) t (none, 0) P (by omega) (fun q hq => by cases hq) rfl)
theorem l84 {Y : zYt} {I : zIt} {A : zAt} {w : Nat → Int64} {p : Nat × Nat} {Q : zR → zH → Prop} {i r h d t : Nat} {O : zMe} {T0 : Nat → zX} {oF : Option zFo} {piv : zE2} (hi : i < 6) (hsh : zsh r h d) (ht : t < h) (htd : t < d) (hp : piv ≠ (0, 0))
    (H1 : ∀ τ, oF = some τ → ∀ P' T', zTo i T0 T' → zCX (T' i) r h d O τ → zwf r h d O τ → Q (.inl none) (zh (P', T', Y) I A w)) (H2 : oF = none → ∀ P' T', zTo i T0 T' → zXb (T' i) → Q (.inr 3) (zh (P', T', Y) I A w)) :
    ∀ (y x : Nat) (P : zPt) (T : Nat → zX) (σ : zFo), x + y = h → t < x → zTo i T0 T → zCX (T i) r h d O σ → zwf r h d O σ → σ.2.1 t t = piv → zclrs r h d false t t y x (some σ) = oF →
    zW zm_84 12 [some (.ref (21 + 8 * i)), some (.int (Int32.ofNat t)), some (.long (zen piv)), none, some (.int (Int32.ofNat x)), none, none] [] p (zh (P, T, Y) I A w) Q := by
  have h4 := hsh.2.2.1
  have h5 := hsh.2.2.2.2
  intro y
  induction y with
  | zero =>
    intro x P T σ hx htx hf hX hw hpv he
    exact b84_12 hi ⟨by omega, by rw [hX.1.2.1]; omega, fun _ => H1 σ he.symm P T hf hX hw, fun hn => by rw [hX.1.2.1] at hn; omega⟩
  | succ y ih =>
    intro x P T σ hx htx hf hX hw hpv he
    have hXb := zCX_b hsh hw hX
    simp only [zclrs, Option.bind_some] at he
    refine b84_12 hi ⟨by omega, by rw [hX.1.2.1]; omega, fun hn => by rw [hX.1.2.1] at hn; omega, fun _ => ⟨hXb, ?_⟩⟩
    rw [zxat_e hXb hX.1 hX.2.2.1 hw.2.1 (by omega) (by omega), hX.1.1]
    refine ⟨fun hz => ?_, fun hz => ?_⟩
    · rw [zclr_0 (c := false) (show zlg false σ.2.1 x t = (0, 0) from zen_z.mp hz)] at he
      exact ih (x + 1) P T σ (by omega) (by omega) hf hX hw hpv he
    · have hne : zlg false σ.2.1 x t ≠ (0, 0) := fun h => hz (zen_z.mpr h)
      have hpv' : zlg false σ.2.1 t t = piv := hpv
      have e1 : zclr r h d false x t t σ = zdo r h d (1, x, t, zneg r (zquo r (σ.2.1 x t) piv)) σ := by
        rw [zclr_gt (fun hh => by omega) hne, hpv']; rfl
      rw [e1] at he
      have hpo : zok r piv := by have := hw.2.1.1 t t; rw [hpv] at this; exact this
      have hqo := zok_quo hsh.1 (hw.2.1.1 x t) hpo hp
      have hsv : zsv r h d (1, x, t, zneg r (zquo r (σ.2.1 x t) piv)) := zadd_sv (c := false) (show x < h by omega) (show t < h by omega) (by omega) (zok_neg hsh.1 hqo)
      refine c_mq hsh.1 (hw.2.1.1 x t) hpo hp (fun P' => b84_52 hi ?_)
      refine s39 (s := (1, x, t, zneg r (zquo r (σ.2.1 x t) piv))) hi hsh hX hw hsv rfl rfl rfl (fun τ eτ P2 T2 f1 f2 => b84_55 ?_) (fun eτ P2 T2 f1 fX => H2 ?_ P2 T2 (zTo_t hf f1) (zCX_b hsh hw fX))
      · rw [eτ] at he
        have hk := zdo_keep eτ t (l := t) (show t ≠ x by omega) (Or.inl (by show 1 % 3 ≠ 0; decide))
        have hk : τ.2.1 t t = σ.2.1 t t := hk
        exact ih (x + 1) P2 T2 τ (by omega) (by omega) (zTo_t hf f1) f2 (zdo_w hsh.1 hw hsv eτ) (by rw [hk]; exact hpv) he
      · rw [eτ, zclrs_none] at he
        exact he.symm
theorem s84 {P : zPt} {T : Nat → zX} {Y : zYt} {I : zIt} {A : zAt} {w : Nat → Int64} {p : Nat × Nat} {Q : zR → zH → Prop} {i r h d t : Nat} {O : zMe} {σ : zFo} (hi : i < 6) (hsh : zsh r h d) (ht : t < h) (htd : t < d) (hX : zCX (T i) r h d O σ) (hw : zwf r h d O σ) (hp : σ.2.1 t t ≠ (0, 0))
    (H1 : ∀ τ, zclrs r h d false t t (h - (t + 1)) (t + 1) (some σ) = some τ → ∀ P' T', zTo i T T' → zCX (T' i) r h d O τ → zwf r h d O τ → Q (.inl none) (zh (P', T', Y) I A w)) (H2 : zclrs r h d false t t (h - (t + 1)) (t + 1) (some σ) = none → ∀ P' T', zTo i T T' → zXb (T' i) → Q (.inr 3) (zh (P', T', Y) I A w)) :
    zT zm_84 [.ref (21 + 8 * i), .int (Int32.ofNat t)] p (zh (P, T, Y) I A w) Q := by
  have h4 := hsh.2.2.1
  have h5 := hsh.2.2.2.2
  have hXb := zCX_b hsh hw hX
  refine b84 hi ⟨hXb, ?_⟩
  rw [zxat_e hXb hX.1 hX.2.2.1 hw.2.1 (by omega) (by omega)]
  exact l84 (T0 := T) hi hsh ht htd hp H1 H2 (h - (t + 1)) (t + 1) P T σ (by omega) (by omega) zTo_r hX hw rfl rfl
theorem l85 {Y : zYt} {I : zIt} {A : zAt} {w : Nat → Int64} {p : Nat × Nat} {Q : zR → zH → Prop} {i r h d t : Nat} {O : zMe} {T0 : Nat → zX} {oF : Option zFo} {piv : zE2} (hi : i < 6) (hsh : zsh r h d) (ht : t < h) (htd : t < d) (hp : piv ≠ (0, 0))
    (H1 : ∀ τ, oF = some τ → ∀ P' T', zTo i T0 T' → zCX (T' i) r h d O τ → zwf r h d O τ → Q (.inl none) (zh (P', T', Y) I A w)) (H2 : oF = none → ∀ P' T', zTo i T0 T' → zXb (T' i) → Q (.inr 3) (zh (P', T', Y) I A w)) :
    ∀ (y x : Nat) (P : zPt) (T : Nat → zX) (σ : zFo), x + y = d → t < x → zTo i T0 T → zCX (T i) r h d O σ → zwf r h d O σ → σ.2.1 t t = piv → zclrs r h d true t t y x (some σ) = oF →
    zW zm_85 12 [some (.ref (21 + 8 * i)), some (.int (Int32.ofNat t)), some (.long (zen piv)), none, some (.int (Int32.ofNat x)), none, none] [] p (zh (P, T, Y) I A w) Q := by
  have h4 := hsh.2.2.1
  have h5 := hsh.2.2.2.2
  intro y
  induction y with
  | zero =>
    intro x P T σ hx htx hf hX hw hpv he
    exact b85_12 hi ⟨by omega, by rw [hX.1.2.2]; omega, fun _ => H1 σ he.symm P T hf hX hw, fun hn => by rw [hX.1.2.2] at hn; omega⟩
  | succ y ih =>
    intro x P T σ hx htx hf hX hw hpv he
    have hXb := zCX_b hsh hw hX
    simp only [zclrs, Option.bind_some] at he
    refine b85_12 hi ⟨by omega, by rw [hX.1.2.2]; omega, fun hn => by rw [hX.1.2.2] at hn; omega, fun _ => ⟨hXb, ?_⟩⟩
    rw [zxat_e hXb hX.1 hX.2.2.1 hw.2.1 (by omega) (by omega), hX.1.1]
    refine ⟨fun hz => ?_, fun hz => ?_⟩
    · rw [zclr_0 (c := true) (show zlg true σ.2.1 x t = (0, 0) from zen_z.mp hz)] at he
      exact ih (x + 1) P T σ (by omega) (by omega) hf hX hw hpv he
    · have hne : zlg true σ.2.1 x t ≠ (0, 0) := fun h => hz (zen_z.mpr h)
      have hpv' : zlg true σ.2.1 t t = piv := hpv
      have e1 : zclr r h d true x t t σ = zdo r h d (4, x, t, zneg r (zquo r (σ.2.1 t x) piv)) σ := by
        rw [zclr_gt (fun hh => by omega) hne, hpv']; rfl
      rw [e1] at he
      have hpo : zok r piv := by have := hw.2.1.1 t t; rw [hpv] at this; exact this
      have hqo := zok_quo hsh.1 (hw.2.1.1 t x) hpo hp
      have hsv : zsv r h d (4, x, t, zneg r (zquo r (σ.2.1 t x) piv)) := zadd_sv (c := true) (show x < d by omega) (show t < d by omega) (by omega) (zok_neg hsh.1 hqo)
      refine c_mq hsh.1 (hw.2.1.1 t x) hpo hp (fun P' => b85_52 hi ?_)
      refine s39 (s := (4, x, t, zneg r (zquo r (σ.2.1 t x) piv))) hi hsh hX hw hsv rfl rfl (zsj_n (s := (4, x, t, zneg r (zquo r (σ.2.1 t x) piv))) (show 4 % 3 ≠ 2 by decide)).symm (fun τ eτ P2 T2 f1 f2 => b85_55 ?_) (fun eτ P2 T2 f1 fX => H2 ?_ P2 T2 (zTo_t hf f1) (zCX_b hsh hw fX))
      · rw [eτ] at he
        have hk := zdo_keep eτ t (l := t) (show t ≠ x by omega) (Or.inl (by show 4 % 3 ≠ 0; decide))
        have hk : τ.2.1 t t = σ.2.1 t t := hk
        exact ih (x + 1) P2 T2 τ (by omega) (by omega) (zTo_t hf f1) f2 (zdo_w hsh.1 hw hsv eτ) (by rw [hk]; exact hpv) he
      · rw [eτ, zclrs_none] at he
        exact he.symm
theorem s85 {P : zPt} {T : Nat → zX} {Y : zYt} {I : zIt} {A : zAt} {w : Nat → Int64} {p : Nat × Nat} {Q : zR → zH → Prop} {i r h d t : Nat} {O : zMe} {σ : zFo} (hi : i < 6) (hsh : zsh r h d) (ht : t < h) (htd : t < d) (hX : zCX (T i) r h d O σ) (hw : zwf r h d O σ) (hp : σ.2.1 t t ≠ (0, 0))
    (H1 : ∀ τ, zclrs r h d true t t (d - (t + 1)) (t + 1) (some σ) = some τ → ∀ P' T', zTo i T T' → zCX (T' i) r h d O τ → zwf r h d O τ → Q (.inl none) (zh (P', T', Y) I A w)) (H2 : zclrs r h d true t t (d - (t + 1)) (t + 1) (some σ) = none → ∀ P' T', zTo i T T' → zXb (T' i) → Q (.inr 3) (zh (P', T', Y) I A w)) :
    zT zm_85 [.ref (21 + 8 * i), .int (Int32.ofNat t)] p (zh (P, T, Y) I A w) Q := by
  have h4 := hsh.2.2.1
  have h5 := hsh.2.2.2.2
  have hXb := zCX_b hsh hw hX
  refine b85 hi ⟨hXb, ?_⟩
  rw [zxat_e hXb hX.1 hX.2.2.1 hw.2.1 (by omega) (by omega)]
  exact l85 (T0 := T) hi hsh ht htd hp H1 H2 (d - (t + 1)) (t + 1) P T σ (by omega) (by omega) zTo_r hX hw rfl rfl
theorem s86 {P : zPt} {T : Nat → zX} {Y : zYt} {I : zIt} {A : zAt} {w : Nat → Int64} {p : Nat × Nat} {Q : zR → zH → Prop} {i r h d t : Nat} {E : zMe} (hi : i < 6) (hsh : zsh r h d) (hX : zXb (T i)) (hh : zCh (T i) r h d) (he : zCe (T i).2.2.2.2.1 E) (hE : zEw r h d E) (ht : t < 4) (H : Q (.inl (some (.int (zbi (zxcl h d E t))))) (zh (P, T, Y) I A w)) : zT zm_86 [.ref (21 + 8 * i), .int (Int32.ofNat t)] p (zh (P, T, Y) I A w) Q := by
  have h4 := hsh.2.2.1
  have h5 := hsh.2.2.2.2
  have hf : ∀ k, t < k → k < 4 → (E k t ≠ (0, 0) ∨ E t k ≠ (0, 0)) → Q (.inl (some (.int 0))) (zh (P, T, Y) I A w) := by
    intro k hk1 hk2 hk
    have : zxcl h d E t = false := by
      cases hv : zxcl h d E t with
      | false => rfl
      | true =>
        exfalso
        obtain ⟨x1, x2⟩ := zxcl_t hv
        rcases hk with hk | hk
        · by_cases hkh : k < h
          · exact hk (zicl_iff.mp x1 k hkh (by omega))
          · exact hk (hE.2 k t (by omega))
        · by_cases hkd : k < d
          · exact hk (zicl_iff.mp x2 k hkd (by omega))
          · exact hk (hE.2 t k (by omega))
    rw [this] at H
    exact H
  have l : ∀ (y x : Nat), x + y = 4 → t < x → (∀ k, t < k → k < x → E k t = (0, 0) ∧ E t k = (0, 0)) → zW zm_86 4 [some (.ref (21 + 8 * i)), some (.int (Int32.ofNat t)), some (.int (Int32.ofNat x))] [] p (zh (P, T, Y) I A w) Q := by
    intro y
    induction y with
    | zero =>
      intro x hx htx hall
      refine b86_4 hi ⟨by omega, fun _ => ?_, fun h => by omega⟩
      have : zxcl h d E t = true := by
        unfold zxcl
        rw [Bool.and_eq_true]
        exact ⟨zicl_iff.mpr (fun k hk1 hk2 => (hall k (by omega) (by omega)).1), zicl_iff.mpr (fun k hk1 hk2 => (hall k (by omega) (by omega)).2)⟩
      rw [this] at H
      exact H
    | succ y ih =>
      intro x hx htx hall
      refine b86_4 hi ⟨by omega, fun h => by omega, fun _ => ⟨hX, ?_⟩⟩
      rw [zxat_e hX hh he hE (by omega) (by omega), zxat_e hX hh he hE (by omega) (by omega)]
      refine ⟨fun hz => hf x htx (by omega) (Or.inl (fun h => hz (zen_z.mpr h))), fun hz => ⟨hX, fun hz2 => ?_, fun hz2 => hf x htx (by omega) (Or.inr (fun h => hz2 (zen_z.mpr h)))⟩⟩
      refine ih (x + 1) (by omega) (by omega) (fun k hk1 hk2 => ?_)
      by_cases hkx : k = x
      · subst hkx; exact ⟨zen_z.mp hz, zen_z.mp hz2⟩
      · exact hall k hk1 (by omega)
  exact b86 (l (4 - (t + 1)) (t + 1) (by omega) (by omega) (fun k hk1 hk2 => by omega))
theorem s87 {P : zPt} {T : Nat → zX} {Y : zYt} {I : zIt} {A : zAt} {w : Nat → Int64} {p : Nat × Nat} {Q : zR → zH → Prop} {i r h d t : Nat} {E : zMe} (hi : i < 6) (hsh : zsh r h d) (hX : zXb (T i)) (hh : zCh (T i) r h d) (he : zCe (T i).2.2.2.2.1 E) (hE : zEw r h d E) (ht : t < h) (htd : t < d) (hp : E t t ≠ (0, 0)) (H : ∀ P', Q (.inl (some (.int (zob (zund r h d E t))))) (zh (P', T, Y) I A w)) : zT zm_87 [.ref (21 + 8 * i), .int (Int32.ofNat t)] p (zh (P, T, Y) I A w) Q := by
  have h4 := hsh.2.2.1
  have h5 := hsh.2.2.2.2
  have lc : ∀ (a : Nat), a < h → ∀ (y x : Nat) (P' : zPt), x + y = d → (zud1 r E (E t t) a y x = true → ∀ P'', Q (.inl (some (.int (Int32.ofNat a)))) (zh (P'', T, Y) I A w)) → (zud1 r E (E t t) a y x = false → ∀ P'', zW zm_87 12 [some (.ref (21 + 8 * i)), some (.int (Int32.ofNat t)), some (.long (zen (E t t))), none, some (.int (Int32.ofNat (a + 1))), none] [] p (zh (P'', T, Y) I A w) Q) →
      zW zm_87 26 [some (.ref (21 + 8 * i)), some (.int (Int32.ofNat t)), some (.long (zen (E t t))), none, some (.int (Int32.ofNat a)), some (.int (Int32.ofNat x))] [] p (zh (P', T, Y) I A w) Q := by
    intro a ha y
    induction y with
    | zero => intro x P' hx K1 K2; exact b87_26 hi ⟨by omega, by rw [hh.2.2]; omega, fun _ => K2 rfl P', fun hn => by rw [hh.2.2] at hn; omega⟩
    | succ y ih =>
      intro x P' hx K1 K2
      refine b87_26 hi ⟨by omega, by rw [hh.2.2]; omega, fun hn => by rw [hh.2.2] at hn; omega, fun _ => ⟨hX, ?_⟩⟩
      rw [zxat_e hX hh he hE (by omega) (by omega), hh.1]
      refine c_rem hsh.1 (hE.1 a x) (hE.1 t t) hp (fun v hv P2 => b87_51 ⟨fun hz => ?_, fun hz => ?_⟩)
      · have hv0 : v = (0, 0) := zen_z.mp hz
        subst hv0
        simp only [zud1, hv, if_true] at K1 K2
        exact ih (x + 1) P2 (by omega) K1 K2
      · have hv0 : v ≠ (0, 0) := fun h => hz (zen_z.mpr h)
        have : zud1 r E (E t t) a (y + 1) x = true := by
          simp only [zud1, hv]
          rw [if_neg (fun h => hv0 (Option.some.inj h))]
        exact K1 this P2
  have l : ∀ (y x : Nat) (P' : zPt), x + y = h → (∀ P'', Q (.inl (some (.int (zob (zud2 r E t d y x))))) (zh (P'', T, Y) I A w)) → zW zm_87 12 [some (.ref (21 + 8 * i)), some (.int (Int32.ofNat t)), some (.long (zen (E t t))), none, some (.int (Int32.ofNat x)), none] [] p (zh (P', T, Y) I A w) Q := by
    intro y
    induction y with
    | zero => intro x P' hx K; exact b87_12 hi ⟨by omega, by rw [hh.2.1]; omega, fun _ => K P', fun hn => by rw [hh.2.1] at hn; omega⟩
    | succ y ih =>
      intro x P' hx K
      refine b87_12 hi ⟨by omega, by rw [hh.2.1]; omega, fun hn => by rw [hh.2.1] at hn; omega, fun _ => lc x (by omega) (d - (t + 1)) (t + 1) P' (by omega) (fun h1 P2 => ?_) (fun h1 P2 => ?_)⟩
      · have K := K P2
        simp only [zud2] at K
        rw [if_pos h1] at K
        exact K
      · simp only [zud2] at K
        rw [if_neg (by rw [h1]; decide)] at K
        exact ih (x + 1) P2 (by omega) K
  refine b87 hi ⟨hX, ?_⟩
  rw [zxat_e hX hh he hE (by omega) (by omega)]
  exact l (h - (t + 1)) (t + 1) P (by omega) H
theorem l82 {Y : zYt} {I : zIt} {A : zAt} {w : Nat → Int64} {p : Nat × Nat} {Q : zR → zH → Prop} {i r h d : Nat} {O : zMe} {T0 : Nat → zX} {oF : Option (Nat × zFo)} (hi : i < 6) (hsh : zsh r h d)
    (H1 : ∀ t τ, oF = some (t, τ) → ∀ P' T', zTo i T0 T' → zCX (T' i) r h d O τ → zwf r h d O τ → Q (.inl (some (.int (Int32.ofNat t)))) (zh (P', T', Y) I A w)) (H2 : oF = none → ∀ P' T', zTo i T0 T' → zXb (T' i) → Q (.inr 3) (zh (P', T', Y) I A w)) :
    ∀ (n u : Nat) (ch : Bool) (t : Nat) (P : zPt) (T : Nat → zX) (σ : zFo), n + u = 205 → u ≤ σ.1 + t → zTo i T0 T → zCX (T i) r h d O σ → zwf r h d O σ → zIn2 h d ch t σ → zsmt r h d n ch t σ = oF →
    zW zm_82 6 [some (.ref (21 + 8 * i)), some (.int (Int32.ofNat t)), some (.int (Int32.ofNat (bif ch then 1 else 0))), some (.int (Int32.ofNat u)), none, none, none] [] p (zh (P, T, Y) I A w) Q := by
  have h4 := hsh.2.2.1
  have h5 := hsh.2.2.2.2
  intro n
  induction n with
  | zero => intro u ch t P T σ hn hu hf hX hw hin; have := hw.1; have := hin.1; omega
  | succ n ih =>
    intro u ch t P T σ hn hu hf hX hw hin he
    simp only [zsmt] at he
    have tail : ∀ τ, zsmB r h d t ch σ = some (some τ) → ∀ P' T', zTo i T0 T' → zCX (T' i) r h d O τ → zW zm_82 37 [some (.ref (21 + 8 * i)), some (.int (Int32.ofNat t)), none, some (.int (Int32.ofNat u)), none, none, none] [] p (zh (P', T', Y) I A w) Q := by
      intro τ ho P' T' f1 f2
      obtain ⟨b1, b2, b3, b4, b5, b6, b7⟩ := zsmB_w hsh hw hin ho
      have hXb := zCX_b hsh b1 f2
      rw [ho] at he
      have he : (if zxcl h d τ.2.1 t = false then zsmt r h d n true t τ else match zund r h d τ.2.1 t with
        | some i => match zdo r h d (1, t, i, (1, 0)) τ with
          | none => none
          | some υ => zsmt r h d n false t υ
        | none => match znz r h d t t τ with
          | none => none
          | some υ => zsmt r h d n true (t + 1) υ) = oF := he
      refine b82_37 (s86 hi hsh hXb f2.1 f2.2.2.1 b1.2.1 (by omega) (b82_44 ⟨fun hrv => ?_, fun hrv => ?_⟩))
      · obtain ⟨x1, x2⟩ := zxcl_t hrv
        rw [if_neg (by rw [hrv]; decide)] at he
        refine s87 hi hsh hXb f2.1 f2.2.2.1 b1.2.1 b2 b3 b4 (fun P2 => ?_)
        cases hund : zund r h d τ.2.1 t with
        | none =>
          simp only [hund] at he
          refine b82_55 hi ⟨fun _ => ⟨hXb, ?_⟩, fun h => absurd rfl h⟩
          rw [zxat_e hXb f2.1 f2.2.2.1 b1.2.1 (by omega) (by omega), f2.1.1]
          refine c_nrm hsh.1 (b1.2.1.1 t t) (fun P3 => b82_92 hi ⟨fun hone => ?_, fun hone => ?_⟩)
          · have e1 : znz r h d t t τ = some τ := by unfold znz; rw [if_pos (zen_o.mp hone)]
            simp only [e1] at he
            exact ih (u + 1) true (t + 1) P3 T' τ (by omega) (by omega) f1 f2 b1 ⟨by omega, by omega, fun h => (by cases h)⟩ he
          · have hne : znrm r (τ.2.1 t t) ≠ (1, 0) := fun h => hone (zen_o.mpr h)
            have hsv := znz_sv (h := h) (d := d) (a := t) hsh.1 b2 (zun_nrm hsh.1 (b1.2.1.1 t t))
            refine s39 (s := (2, t, 0, znrm r (τ.2.1 t t))) hi hsh f2 b1 hsv rfl rfl rfl (fun ω eω P4 T4 k1 k2 => b82_112 ?_) (fun eω P4 T4 k1 fX => H2 ?_ P4 T4 (zTo_t f1 k1) (zCX_b hsh b1 fX))
            · have e1 : znz r h d t t τ = some ω := by unfold znz; rw [if_neg hne]; exact eω
              simp only [e1] at he
              obtain ⟨n1, _, n3, _⟩ := znz_w hsh.1 b1 b2 b3 b4 e1
              exact ih (u + 1) true (t + 1) P4 T4 ω (by omega) (by omega) (zTo_t f1 k1) k2 n1 ⟨by omega, by omega, fun h => (by cases h)⟩ he
            · have e1 : znz r h d t t τ = none := by unfold znz; rw [if_neg hne]; exact eω
              simp only [e1] at he
              exact he.symm
        | some z =>
          simp only [hund] at he
          obtain ⟨u1, u2⟩ := zund_s hund
          refine b82_55 hi ⟨fun h => absurd h (zob_n (by omega)), fun _ => ?_⟩
          rw [← zen_1]
          refine s39 (s := (1, t, z, (1, 0))) hi hsh f2 b1 (zadd_sv (c := false) (show t < h by omega) u2 (by omega) (zok_1 hsh.1)) rfl rfl rfl (fun ω eω P4 T4 k1 k2 => b82_74 ?_) (fun eω P4 T4 k1 fX => H2 ?_ P4 T4 (zTo_t f1 k1) (zCX_b hsh b1 fX))
          · simp only [eω] at he
            obtain ⟨a1, a2, a3, a4⟩ := zadd1 hsh b1 u1 u2 b3 b4 x1 eω
            exact ih (u + 1) false t P4 T4 ω (by omega) (by omega) (zTo_t f1 k1) k2 a1 a2 he
          · simp only [eω] at he
            exact he.symm
      · rw [if_pos hrv] at he
        have := b6 hrv
        exact ih (u + 1) true t P' T' τ (by omega) (by omega) f1 f2 b1 ⟨hin.1, hin.2.1, fun h => (by cases h)⟩ he
    have none2 : zsmB r h d t ch σ = some none → oF = none := by
      intro ho
      rw [ho] at he
      exact he.symm
    cases ch with
    | false =>
      obtain ⟨j1, j2, j3, j4⟩ := hin.2.2 rfl
      refine b82_6 ⟨by omega, fun h => by omega, fun _ => ⟨by show (0 : Nat) < 2147483648; omega, fun _ => ?_, fun h => absurd rfl h⟩⟩
      exact s85 hi hsh j1 j2 hX hw j3 (fun τ eτ P' T' f1 f2 _ => tail τ (congrArg some eτ) P' T' (zTo_t hf f1) f2) (fun eτ P' T' f1 fX => H2 (none2 (congrArg some eτ)) P' T' (zTo_t hf f1) fX)
    | true =>
      refine b82_6 ⟨by omega, fun h => by omega, fun _ => ⟨by show (1 : Nat) < 2147483648; omega, fun h => absurd h (by show (1 : Nat) ≠ 0; decide), fun _ => ?_⟩⟩
      refine s83 hi hsh hX hw hin.1 hin.2.1 (fun hnf P' => b82_22 (rv := false) ⟨fun h => (by cases h), fun _ => ?_⟩) (fun ij hfn τ eτ P' T' f1 f2 => b82_22 (rv := true) ⟨fun _ => ?_, fun h => (by cases h)⟩) (fun ij hfn eτ P' T' f1 fX => H2 (none2 ?_) P' T' (zTo_t hf f1) fX)
      · simp only [zsmB, hnf] at he
        exact H1 t σ he.symm P' T hf hX hw
      · obtain ⟨f3, f4, f5, f6, f7⟩ := zfnd_s hsh.1 hw.2.1 hin.2.1 hfn
        obtain ⟨w1, w2, w3, w4⟩ := zbrg_w hsh.1 hw (show t < h by omega) (show t < d by omega) f4 f6 f3 f5 eτ
        have hp1 : τ.2.1 t t ≠ (0, 0) := by rw [w2]; exact f7
        refine s84 hi hsh (by omega) (by omega) f2 w1 hp1 (fun υ eυ P2 T2 g1 g2 g3 => b82_32 ?_) (fun eυ P2 T2 g1 fX => H2 (none2 ?_) P2 T2 (zTo_t (zTo_t hf f1) g1) fX)
        · obtain ⟨_, v2, _⟩ := zclrs_w hsh.1 (c := false) (show t < h by omega) (h - (t + 1)) (t + 1) τ υ (show t + 1 + (h - (t + 1)) ≤ h by omega) (Or.inl (by omega)) w1 hp1 eυ
          have hp2 : υ.2.1 t t ≠ (0, 0) := by
            have : υ.2.1 t t = τ.2.1 t t := v2 t t (Or.inl (by omega))
            rw [this]; exact hp1
          refine s85 hi hsh (by omega) (by omega) g2 g3 hp2 (fun ω eω P3 T3 k1 k2 _ => tail ω ?_ P3 T3 (zTo_t (zTo_t (zTo_t hf f1) g1) k1) k2) (fun eω P3 T3 k1 fX => H2 (none2 ?_) P3 T3 (zTo_t (zTo_t (zTo_t hf f1) g1) k1) fX)
          · simp only [zsmB, hfn]; rw [eτ, eυ, eω]
          · simp only [zsmB, hfn]; rw [eτ, eυ, eω]
        · simp only [zsmB, hfn]; rw [eτ, eυ, zclrs_none]
      · simp only [zsmB, hfn]; rw [eτ, zclrs_none, zclrs_none]
/-- SmithForm.reach -/
theorem s82 {P : zPt} {T : Nat → zX} {Y : zYt} {I : zIt} {A : zAt} {w : Nat → Int64} {p : Nat × Nat} {Q : zR → zH → Prop} {i r h d : Nat} {O : zMe} {σ : zFo} (hi : i < 6) (hsh : zsh r h d) (hX : zCX (T i) r h d O σ) (hw : zwf r h d O σ)
    (H1 : ∀ t τ, zsmt r h d 205 true 0 σ = some (t, τ) → ∀ P' T', zTo i T T' → zCX (T' i) r h d O τ → zwf r h d O τ → Q (.inl (some (.int (Int32.ofNat t)))) (zh (P', T', Y) I A w)) (H2 : zsmt r h d 205 true 0 σ = none → ∀ P' T', zTo i T T' → zXb (T' i) → Q (.inr 3) (zh (P', T', Y) I A w)) :
    zT zm_82 [.ref (21 + 8 * i)] p (zh (P, T, Y) I A w) Q := b82 (l82 (T0 := T) hi hsh H1 H2 205 0 true 0 P T σ rfl (by omega) zTo_r hX hw ⟨by omega, by omega, fun h => (by cases h)⟩ rfl)
