/-! TRANSFER -/
def ztf (r h d : Nat) (c : Bool) (g : Nat → zSt) : Nat → Nat → Option zFo → Option zFo
  | 0, _, o => o
  | n + 1, k, o => ztf r h d c g n (k + 1) (if zkc (g k) = c then o.bind (zdo r h d (g k)) else o)
def zcn (c : Bool) (g : Nat → zSt) : Nat → Nat → Nat → Nat
  | 0, _, x => x
  | n + 1, k, x => zcn c g n (k + 1) (if zkc (g k) = c then x + 1 else x)
def zc_trans (S : zSs) (a0 a1 : Int32) (c : Bool) : (Int32 ⊕ Nat) × zSs := zboth S a0 a1 (fun X X' => if a0 ≠ a1 ∧ X.1 = X'.1 ∧ zll X.2.1 X.2.2.1 c = zll X'.2.1 X'.2.2.1 c then (match ztf X'.1 X'.2.1 X'.2.2.1 c X.2.2.2.2.2.2 X.2.2.2.2.1 0 (some X'.2.2.2.2) with
  | none => (.inr 3, S)
  | some τ => (.inl (Int32.ofNat (zcn c X.2.2.2.2.2.2 X.2.2.2.2.1 0 0)), zup S (znn a1) (X'.1, X'.2.1, X'.2.2.1, X'.2.2.2.1, τ))) else (.inr 1, S))
theorem ztf_n {r h d : Nat} {c : Bool} {g : Nat → zSt} : ∀ n k, ztf r h d c g n k none = none
  | 0, _ => rfl
  | n + 1, k => by
    rw [ztf, show (if zkc (g k) = c then (none : Option zFo).bind (zdo r h d (g k)) else none) = none by split <;> rfl]
    exact ztf_n n (k + 1)
theorem zsv_t {r h d h' d' : Nat} {s : zSt} {c : Bool} (hs : zsv r h d s) (hc : zkc s = c) (hl : zll h d c = zll h' d' c) : zsv r h' d' s := by
  unfold zsv at hs ⊢
  rw [hc, hl] at hs
  rw [hc]
  exact hs
theorem zkc_2 {s : zSt} : (zkc s = false ↔ s.1 ≤ 2) ∧ (zkc s = true ↔ ¬ s.1 ≤ 2) := by
  unfold zkc
  by_cases h : 2 < s.1
  · rw [zbltT h]; exact ⟨⟨fun h => (by cases h), fun h' => (by omega)⟩, ⟨fun _ => (by omega), fun _ => rfl⟩⟩
  · rw [zbltF h]; exact ⟨⟨fun _ => (by omega), fun _ => rfl⟩, ⟨fun h => (by cases h), fun h' => (by omega)⟩⟩
/-- performStepsOf -/
theorem s44 {P : zPt} {T : Nat → zX} {Y : zYt} {I : zIt} {A : zAt} {w : Nat → Int64} {p : Nat × Nat} {Q : zR → zH → Prop} {i j r h d h' d' : Nat} {c : Bool} {O O' : zMe} {σ ς : zFo} (hi : i < 6) (hj : j < 6) (hij : j ≠ i) (hsh : zsh r h d) (hsh' : zsh r h' d') (hX : zCX (T i) r h d O σ) (hw : zwf r h d O σ) (hY : zCX (T j) r h' d' O' ς) (hv : zwf r h' d' O' ς) (hl : zll h' d' c = zll h d c)
    (H1 : ∀ τ, ztf r h d c ς.2.2 ς.1 0 (some σ) = some τ → ∀ P' T', zTo i T T' → zCX (T' i) r h d O τ → zwf r h d O τ → Q (.inl (some (.int (Int32.ofNat (zcn c ς.2.2 ς.1 0 0))))) (zh (P', T', Y) I A w))
    (H2 : ztf r h d c ς.2.2 ς.1 0 (some σ) = none → ∀ P' T', zTo i T T' → zXb (T' i) → Q (.inr 3) (zh (P', T', Y) I A w)) : zT zm_44 [.ref (21 + 8 * i), .ref (21 + 8 * j), .int (zbi c)] p (zh (P, T, Y) I A w) Q := by
  have hc2 : ς.1 ≤ 200 := hv.1
  have lp : ∀ (n x y : Nat) (τ : zFo) P T1, x + n = ς.1 → y ≤ x → zTo i T T1 → zCX (T1 i) r h d O τ → zwf r h d O τ → ztf r h d c ς.2.2 n x (some τ) = ztf r h d c ς.2.2 ς.1 0 (some σ) → zcn c ς.2.2 n x y = zcn c ς.2.2 ς.1 0 0 → zW zm_44 5 [some (.ref (21 + 8 * i)), some (.ref (21 + 8 * j)), some (.int (zbi c)), some (.int (Int32.ofNat y)), some (.int (Int32.ofNat x))] [] p (zh (P, T1, Y) I A w) Q := by
    intro n
    induction n with
    | zero =>
      intro x y τ P T1 hx hyx f1 f2 f3 e1 e2
      have et : (T1 j).2.2.2.1 = ς.1 := by rw [f1 j hij]; exact hY.2.1
      refine b44_5 hj hi ?_
      rw [et]
      refine ⟨by omega, by omega, fun _ => ?_, fun h => (by omega)⟩
      have e2 : y = _ := e2
      rw [e2]
      exact H1 τ e1.symm P T1 f1 f2 f3
    | succ n ih =>
      intro x y τ P T1 hx hyx f1 f2 f3 e1 e2
      have hx' : x < ς.1 := by omega
      have et : (T1 j).2.2.2.1 = ς.1 := by rw [f1 j hij]; exact hY.2.1
      obtain ⟨g1, g2, g3, g4⟩ := hY.2.2.2.2 x hx'
      have hs := hv.2.2.2.1 x hx'
      have h6 := hs.1
      rw [← f1 j hij] at g1 g2 g3 g4
      rw [ztf] at e1
      rw [zcn] at e2
      have skip : zkc (ς.2.2 x) ≠ c → zW zm_44 5 [some (.ref (21 + 8 * i)), some (.ref (21 + 8 * j)), some (.int (zbi c)), some (.int (Int32.ofNat y)), some (.int (Int32.ofNat (x + 1)))] [] p (zh (P, T1, Y) I A w) Q := by
        intro hne
        rw [if_neg hne] at e1 e2
        exact ih (x + 1) y τ P T1 (by omega) (by omega) f1 f2 f3 e1 e2
      have step : zkc (ς.2.2 x) = c → zT zm_39 [.ref (21 + 8 * i), .int ((T1 j).2.2.2.2.2.2.2.1 x), .int ((T1 j).2.2.2.2.2.2.2.2.1 x), .int ((T1 j).2.2.2.2.2.2.2.2.2.1 x), .long ((T1 j).2.2.2.2.2.2.2.2.2.2 x)] p (zh (P, T1, Y) I A w) (zK zm_44 66 [some (.ref (21 + 8 * i)), some (.ref (21 + 8 * j)), some (.int (zbi c)), some (.int (Int32.ofNat y)), some (.int (Int32.ofNat x))] [] p Q) := by
        intro heq
        rw [if_pos heq, Option.bind_some] at e1
        rw [if_pos heq] at e2
        have hs' := zsv_t hs heq hl
        rw [g4]
        refine s39 hi hsh f2 f3 hs' g1 g2 g3 (fun τ2 ed P2 T2 k1 k2 => b44_66 ?_) (fun ed P2 T2 k1 k2 => ?_)
        · rw [ed] at e1
          exact ih (x + 1) (y + 1) τ2 P2 T2 (by omega) (by omega) (fun k hk => (k1 k hk).trans (f1 k hk)) k2 (zdo_w hsh.1 f3 hs' ed) e1 e2
        · rw [ed, ztf_n] at e1
          exact H2 e1.symm P2 T2 (fun k hk => (k1 k hk).trans (f1 k hk)) (zCX_b hsh f3 k2)
      have lt3 : (Int32.ofNat (ς.2.2 x).1 < (3 : Int32)) ↔ zkc (ς.2.2 x) = false := by
        rw [zkc_2.1, Int32.lt_iff_toInt_lt, zN_i (by omega), show Int32.toInt 3 = 3 from rfl]
        omega
      refine b44_5 hj hi ?_
      rw [et, g1]
      rw [g1] at step
      refine ⟨by omega, by omega, fun h => (by omega), fun _ => ⟨by omega, fun k3 => ?_, fun k3 => ?_⟩⟩
      · have kf := lt3.mp k3
        refine ⟨fun hb => skip (fun h => hb (by rw [← h, kf]; rfl)), fun hb => step ?_⟩
        rw [kf]
        cases c with
        | false => rfl
        | true => exact absurd hb (by decide)
      · have kt : zkc (ς.2.2 x) = true := by
          cases hz : zkc (ς.2.2 x) with
          | false => exact absurd (lt3.mpr hz) k3
          | true => rfl
        refine ⟨fun hb => skip (fun h => hb (by rw [← h, kt]; rfl)), fun hb => step ?_⟩
        rw [kt]
        cases c with
        | false => exact absurd hb (by decide)
        | true => rfl
  exact b44 (lp ς.1 0 0 σ P T (by omega) (by omega) zTo_r hX hw rfl rfl)
theorem zlns_e {X : zX} {r h d : Nat} (hh : zCh X r h d) (c : Bool) : zlns X c = zll h d c := by
  cases c
  · exact hh.2.1
  · exact hh.2.2
theorem k_trans {P : zPt} {T : Nat → zX} {Y : zYt} {I : zIt} {A : zAt} {w : Nat → Int64} {p : Nat × Nat} {Q : zR → zH → Prop} {S : zSs} {a0 a1 : Int32} {c : Bool} (hw : zSw S) (hC : zCS T S) (H : ∀ T' h', zCS T' (zc_trans S a0 a1 c).2 → zCH Y I A w T' h' → Q (zRo (zc_trans S a0 a1 c).1) h') : zT zm_115 [.ref 0, .int a0, .int a1, .int (zbi c)] p (zh (P, T, Y) I A w) Q := by
  have bad0 : (zslot a0 = false ∨ zslot a1 = false) → Q (.inr 0) (zh (P, T, Y) I A w) := fun c => kfin (x := .inr 0) (S' := S) H (zboth_0 c) T _ hC ⟨P, rfl⟩
  refine b115 ⟨fun c0 k0 hk0 e0 => ⟨fun c1 k1 hk1 e1 => ⟨by have := (hC.2 k0).1; omega, ?_⟩, fun c1 => bad0 (Or.inr c1)⟩, fun c0 => bad0 (Or.inl c0)⟩
  rw [zCS_0 hC hw hk0, zCS_0 hC hw hk1]
  refine ⟨fun c => ?_, fun cc => ⟨by have := (hC.2 k1).1; omega, fun c' => ?_, fun cc' => ?_⟩⟩
  · exact kfin (x := .inr 1) (S' := S) H (zboth_1 c0 c1 hk0 hk1 e0 e1 (Or.inl (Option.isNone_iff_eq_none.mp c))) T _ hC ⟨P, rfl⟩
  · exact kfin (x := .inr 1) (S' := S) H (zboth_1 c0 c1 hk0 hk1 e0 e1 (Or.inr (Option.isNone_iff_eq_none.mp c'))) T _ hC ⟨P, rfl⟩
  cases e : S k0 with
  | none => rw [e] at cc; cases cc
  | some X =>
  cases e' : S k1 with
  | none => rw [e'] at cc'; cases cc'
  | some X' =>
  have hX := hw k0 X hk0 e
  have hY := hw k1 X' hk1 e'
  have hx := zCS_x hC hk0 e
  have hy := zCS_x hC hk1 e'
  have l1 := zll_le hX.1 c
  have l2 := zll_le hY.1 c
  have ex : zc_trans S a0 a1 c = _ := zboth_2 c0 c1 hk0 hk1 e0 e1 e e'
  have aeq : a0 = a1 ↔ k0 = k1 := by rw [e0, e1]; exact zN_e (by omega) (by omega)
  have no : ¬ (a0 ≠ a1 ∧ X.1 = X'.1 ∧ zll X.2.1 X.2.2.1 c = zll X'.2.1 X'.2.2.1 c) → Q (.inr 1) (zh (P, T, Y) I A w) := fun hn => kfin (x := .inr 1) (S' := S) H (ex.trans (if_neg hn)) T _ hC ⟨P, rfl⟩
  rw [zrno_e hC hw hk0 e, zrno_e hC hw hk1 e', zlns_e hx.1, zlns_e hy.1]
  refine ⟨fun g => no (fun q => q.1 (aeq.mpr g)), fun hne => ⟨fun g => no (fun q => (of_decide_eq_false g) q.2.1), fun g => ⟨by omega, by omega, fun g' => no (fun q => g' q.2.2), fun hl => ?_⟩⟩⟩
  have er := of_decide_eq_true g
  have ex := ex.trans (if_pos ⟨fun h => hne (aeq.mp h), er, hl⟩)
  have en : znn a1 = k1 := by rw [e1, znn_o (by omega)]
  rw [en] at ex
  refine s33 (i := 3) (by omega) (by omega) hy hY.2.1 (fun T1 f1 f2 => b115_85 ?_)
  have hC1 := zCS_w hC f1 (by omega) (zCX_b hY.1 hY.2 f2)
  have hx1 := zCS_x hC1 hk0 e
  have hXs := hX.1
  have hXw := hX.2
  rw [er] at hx1 hXs hXw
  refine s44 (i := 3) (by omega) (by omega) (by omega) hY.1 hXs f2 hY.2 hx1 hXw hl (fun τ eτ P2 T2 g1 g2 g3 => b115_95 (by omega) ?_) (fun eτ P2 T2 g1 g2 => ?_)
  · rw [eτ] at ex
    have hC2 := zCS_w hC1 g1 (by omega) (zCX_b hY.1 g3 g2)
    exact s33 (j := 3) (by omega) (by omega) g2 g3.1 (fun T3 q1 q2 => b115_106 (kfin (x := .inl (Int32.ofNat (zcn c X.2.2.2.2.2.2 X.2.2.2.2.1 0 0))) (S' := zup S k1 (X'.1, X'.2.1, X'.2.2.1, X'.2.2.2.1, τ)) H ex T3 _ (zCS_up hC2 q1 q2 ⟨hY.1, g3⟩) ⟨P2, rfl⟩))
  · rw [eτ] at ex
    exact kfin (x := .inr 3) (S' := S) H ex T2 _ (zCS_w hC1 g1 (by omega) g2) ⟨P2, rfl⟩
theorem r_trans {K : zKt} {code rf rs pr pn : Int32} {bad : Bool} {J : zJt} {m pa pb pc vf vs : Nat → Int32} {B : zBt} {w : Nat → Int64} {p : Nat × Nat} {Q : zR → zH → Prop} {S : zSs} {a0 a1 : Int32} {c : Bool} (hw : zSw S) (hR : zRS m S) (H : ∀ m' h', zRS m' (zc_trans S a0 a1 c).2 → zRH K J B w m' (zcd [0, 1, 3] (zc_trans S a0 a1 c).1) h' → Q (.inl (some (.int (zrv (zc_trans S a0 a1 c).1)))) h') : zT zm_182 [.ref 75, .int a0, .int a1, .int (zbi c)] p (zh K (code, rf, rs, bad, pr, pn, J) (m, pa, pb, pc, vf, vs, B) w) Q := by
  have bad0 : (zslot a0 = false ∨ zslot a1 = false) → Q (.inl (some (.int (0 : Int32)))) (zh K ((1 : Int32), rf, rs, bad, pr, pn, J) (m, pa, pb, pc, vf, vs, B) w) := fun c => zfin (S := S) (x := .inr 0) (S' := S) H (zboth_0 c) m _ hR ⟨_, _, _, _, _, _, _, _, _, _, rfl⟩
  have go : ∀ k0 k1 X X', k0 < 3 → k1 < 3 → a0 = Int32.ofNat k0 → a1 = Int32.ofNat k1 → zslot a0 = true → zslot a1 = true → S k0 = some X → S k1 = some X' → ¬ k0 = k1 → X.1 = X'.1 → zll X.2.1 X.2.2.1 c = zll X'.2.1 X'.2.2.1 c → zT zm_173 [.ref 75, .int (Int32.ofNat k1)] p (zh K ((0 : Int32), rf, rs, bad, pr, pn, J) (m, pa, pb, pc, vf, vs, B) w) (zK zm_182 126 [some (.ref 75), none, some (.int (Int32.ofNat k1)), some (.int (zbi c)), some (.int (Int32.ofNat (1068 * k0))), none, none, none, none, none] [] p Q) := by
    intro k0 k1 X X' hk0 hk1 e0 e1 c0 c1 e e' hne er hl
    have hX := hw k0 X hk0 e
    have hY := hw k1 X' hk1 e'
    have ex : zc_trans S a0 a1 c = _ := zboth_2 c0 c1 hk0 hk1 e0 e1 e e'
    have aeq : a0 = a1 ↔ k0 = k1 := by rw [e0, e1]; exact zN_e (by omega) (by omega)
    have ex := ex.trans (if_pos ⟨fun h => hne (aeq.mp h), er, hl⟩)
    have en : znn a1 = k1 := by rw [e1, znn_o (by omega)]
    rw [en] at ex
    have hcx : X.2.2.2.2.1 ≤ 200 := hX.2.1
    refine s173 hk1 (fun m1 f1 f2 => b182_126 ?_)
    have hb1 := zRb_cp f2 hY.2.1 (zRS_b hR hk1 e')
    have hR1 := zRS_fr hR hw f1 (by omega)
    have lp : ∀ (n x y : Nat) (o : Option zFo) (rf rs : Int32) (pa pb pc m2 : Nat → Int32) (bad : Bool), x + n = X.2.2.2.2.1 → zfr 3204 m1 m2 → zGB bad m2 3204 X'.1 X'.2.1 X'.2.2.1 X'.2.2.2.1 o → ztf X'.1 X'.2.1 X'.2.2.1 c X.2.2.2.2.2.2 n x o = ztf X'.1 X'.2.1 X'.2.2.1 c X.2.2.2.2.2.2 X.2.2.2.2.1 0 (some X'.2.2.2.2) → zcn c X.2.2.2.2.2.2 n x y = zcn c X.2.2.2.2.2.2 X.2.2.2.2.1 0 0 →
        zW zm_182 132 [some (.ref 75), none, some (.int (Int32.ofNat k1)), some (.int (zbi c)), some (.int (Int32.ofNat (1068 * k0))), none, none, some (.int (Int32.ofNat y)), some (.int (Int32.ofNat x)), none] [] p (zh K ((0 : Int32), rf, rs, bad, pr, pn, J) (m2, pa, pb, pc, vf, vs, B) w) Q := by
      intro n
      induction n with
      | zero =>
        intro x y o rf rs pa pb pc m2 bad hx hf hg e1 e2
        have hR2 := zRS_fr hR1 hw hf (by omega)
        have hb0 := zRS_b hR2 hk0 e
        refine b182_132 ?_
        rw [hb0.2.1, zN_leI (by omega) (by omega)]
        refine ⟨by omega, fun _ => ?_, fun h => absurd (by omega) h⟩
        have e1 : o = _ := e1
        have e2 : y = _ := e2
        rw [← e1, ← e2] at ex
        cases o with
        | none =>
          obtain ⟨rfl, _⟩ := hg
          exact s162 hk1 (fun h => (by cases h)) (fun _ => b182_245 (zfin (S := S) (x := .inr 3) (S' := S) H ex m2 _ hR2 ⟨_, _, _, _, _, _, _, _, _, _, rfl⟩))
        | some τ =>
          obtain ⟨rfl, hb2, hw2⟩ := hg
          exact s162 hk1 (fun _ m3 q1 q2 => b182_245 (zfin (S := S) (x := .inl (Int32.ofNat y)) (S' := zup S k1 (X'.1, X'.2.1, X'.2.2.1, X'.2.2.2.1, τ)) H ex m3 _ (zRS_up hR2 hw q1 (zRb_cp q2 hw2.1 hb2)) ⟨_, _, _, _, _, _, _, _, _, _, rfl⟩)) (fun h => (by cases h))
      | succ n ih =>
        intro x y o rf rs pa pb pc m2 bad hx hf hg e1 e2
        have hR2 := zRS_fr hR1 hw hf (by omega)
        have hb0 := zRS_b hR2 hk0 e
        have hx' : x < X.2.2.2.2.1 := by omega
        obtain ⟨g1, g2, g3, g4, g5⟩ := hb0.2.2.2.2 x hx'
        have hs := hX.2.2.2.2.1 x hx'
        have h6 := hs.1
        rw [er] at hs
        rw [ztf] at e1
        rw [zcn] at e2
        have skip : zkc (X.2.2.2.2.2.2 x) ≠ c → zW zm_182 132 [some (.ref 75), none, some (.int (Int32.ofNat k1)), some (.int (zbi c)), some (.int (Int32.ofNat (1068 * k0))), none, none, some (.int (Int32.ofNat y)), some (.int (Int32.ofNat (x + 1))), none] [] p (zh K ((0 : Int32), rf, rs, bad, pr, pn, J) (m2, pa, pb, pc, vf, vs, B) w) Q := by
          intro hn
          rw [if_neg hn] at e1 e2
          exact ih (x + 1) y o _ _ _ _ _ m2 bad (by omega) hf hg e1 e2
        have step : zkc (X.2.2.2.2.2.2 x) = c → zT zm_174 [.ref 75, .int (3204 : Int32), .int (Int32.ofNat (X.2.2.2.2.2.2 x).1), .int (Int32.ofNat (X.2.2.2.2.2.2 x).2.1), .int (zsj (X.2.2.2.2.2.2 x)), .int (X.2.2.2.2.2.2 x).2.2.2.1, .int (X.2.2.2.2.2.2 x).2.2.2.2] p (zh K ((0 : Int32), rf, rs, bad, pr, pn, J) (m2, pa, pb, pc, vf, vs, B) w) (zK zm_182 228 [some (.ref 75), none, some (.int (Int32.ofNat k1)), some (.int (zbi c)), some (.int (Int32.ofNat (1068 * k0))), none, none, some (.int (Int32.ofNat y)), some (.int (Int32.ofNat x)), none] [] p Q) := by
          intro heq
          rw [if_pos heq] at e1 e2
          refine s174g (β := 3204) hY.1 (by omega) hg (fun _ => zsv_t hs heq hl) (fun h => zsj_n h) (fun rf' rs' pa' pb' pc' m3 bad' q1 q2 => b182_228 ?_)
          exact ih (x + 1) (y + 1) _ _ _ _ _ _ m3 bad' (by omega) (zfr_t hf q1) q2 e1 e2
        have le2 : (Int32.ofNat (X.2.2.2.2.2.2 x).1 ≤ (2 : Int32)) ↔ zkc (X.2.2.2.2.2.2 x) = false := by
          rw [zkc_2.1, show (2 : Int32) = Int32.ofNat 2 from rfl, zN_leI (by omega) (by omega)]
        refine b182_132 ?_
        rw [hb0.2.1, zN_leI (by omega) (by omega), g1, g2, g3, g4, g5]
        refine ⟨by omega, fun h => absurd h (by omega), fun _ => ⟨by omega, fun k3 => ?_, fun k3 => ?_⟩⟩
        · have kf := le2.mp k3
          refine ⟨fun hb => skip (fun h => hb (by rw [← h, kf]; rfl)), fun hb => ⟨by omega, by omega, by omega, by omega, step ?_⟩⟩
          rw [kf]
          cases c with
          | false => rfl
          | true => exact absurd hb (by decide)
        · have kt : zkc (X.2.2.2.2.2.2 x) = true := by
            cases hz : zkc (X.2.2.2.2.2.2 x) with
            | false => exact absurd (le2.mpr hz) k3
            | true => rfl
          refine ⟨fun hb => skip (fun h => hb (by rw [← h, kt]; rfl)), fun hb => ⟨by omega, by omega, by omega, by omega, step ?_⟩⟩
          rw [kt]
          cases c with
          | false => exact absurd hb (by decide)
          | true => rfl
    exact lp X.2.2.2.2.1 0 0 (some X'.2.2.2.2) _ _ _ _ _ m1 false (by omega) zfr_r ⟨rfl, hb1, hY.2⟩ rfl rfl
  refine b182 ⟨fun c0 => bad0 (Or.inl c0), fun c0 k0 hk0 e0 => ⟨fun c1 k1 hk1 e1 => ?_, fun c1 => bad0 (Or.inr c1)⟩⟩
  have n1 : (S k0 = none ∨ S k1 = none) → Q (.inl (some (.int (0 : Int32)))) (zh K ((2 : Int32), rf, rs, bad, pr, pn, J) (m, pa, pb, pc, vf, vs, B) w) := fun e => zfin (S := S) (x := .inr 1) (S' := S) H (zboth_1 c0 c1 hk0 hk1 e0 e1 e) m _ hR ⟨_, _, _, _, _, _, _, _, _, _, rfl⟩
  have no : ∀ X X', S k0 = some X → S k1 = some X' → ¬ (k0 ≠ k1 ∧ X.1 = X'.1 ∧ zll X.2.1 X.2.2.1 c = zll X'.2.1 X'.2.2.1 c) → Q (.inl (some (.int (0 : Int32)))) (zh K ((2 : Int32), rf, rs, bad, pr, pn, J) (m, pa, pb, pc, vf, vs, B) w) := by
    intro X X' e e' hn
    have ex : zc_trans S a0 a1 c = _ := zboth_2 c0 c1 hk0 hk1 e0 e1 e e'
    have aeq : a0 = a1 ↔ k0 = k1 := by rw [e0, e1]; exact zN_e (by omega) (by omega)
    exact zfin (S := S) (x := .inr 1) (S' := S) H (ex.trans (if_neg (fun g => hn ⟨fun h => g.1 (aeq.mpr h), g.2⟩))) m _ hR ⟨_, _, _, _, _, _, _, _, _, _, rfl⟩
  refine ⟨fun hc => ⟨by omega, fun cc => n1 (Or.inl (zRS_n hR hw hk0 cc)), fun cc => ⟨by omega, fun cc' => n1 (Or.inr (zRS_n hR hw hk1 cc')), fun cc' => ?_⟩⟩, fun hc => ⟨by omega, fun cc => n1 (Or.inl (zRS_n hR hw hk0 cc)), fun cc => ⟨by omega, fun cc' => n1 (Or.inr (zRS_n hR hw hk1 cc')), fun cc' => ?_⟩⟩⟩
  · subst hc
    obtain ⟨X, e⟩ := zRS_s hR hw hk0 cc
    obtain ⟨X', e'⟩ := zRS_s hR hw hk1 cc'
    have hX := hw k0 X hk0 e
    have hY := hw k1 X' hk1 e'
    have hb := zRS_b hR hk0 e
    have hb' := zRS_b hR hk1 e'
    have hr1 := zrg_lt hX.1.1
    have hr2 := zrg_lt hY.1.1
    have h1 := hX.1.2.2.1
    have h3 := hY.1.2.2.1
    rw [show m (1068 * k0 + 0) = Int32.ofNat X.1 from hb.1.1, show m (1068 * k1 + 0) = Int32.ofNat X'.1 from hb'.1.1, hb.1.2.1, hb'.1.2.1]
    refine ⟨fun h => no X X' e e' (fun g => g.1 h), fun hne => ⟨by omega, by omega, fun h => no X X' e e' (fun g => h (by rw [g.2.1])), fun er => ⟨by omega, by omega, fun eh => ?_, fun h => no X X' e e' (fun g => h (congrArg Int32.ofNat g.2.2))⟩⟩⟩
    have eh' : X.2.1 = X'.2.1 := zN_inj (by omega) (by omega) eh
    exact go k0 k1 X X' hk0 hk1 e0 e1 c0 c1 e e' hne (zN_inj (by omega) (by omega) er) eh'
  · subst hc
    obtain ⟨X, e⟩ := zRS_s hR hw hk0 cc
    obtain ⟨X', e'⟩ := zRS_s hR hw hk1 cc'
    have hX := hw k0 X hk0 e
    have hY := hw k1 X' hk1 e'
    have hb := zRS_b hR hk0 e
    have hb' := zRS_b hR hk1 e'
    have hr1 := zrg_lt hX.1.1
    have hr2 := zrg_lt hY.1.1
    have h1 := hX.1.2.2.2.2
    have h3 := hY.1.2.2.2.2
    rw [show m (1068 * k0 + 0) = Int32.ofNat X.1 from hb.1.1, show m (1068 * k1 + 0) = Int32.ofNat X'.1 from hb'.1.1, hb.1.2.2, hb'.1.2.2]
    refine ⟨fun h => no X X' e e' (fun g => g.1 h), fun hne => ⟨by omega, by omega, fun h => no X X' e e' (fun g => h (by rw [g.2.1])), fun er => ⟨by omega, by omega, fun eh => ?_, fun h => no X X' e e' (fun g => h (congrArg Int32.ofNat g.2.2))⟩⟩⟩
    have eh' : X.2.2.1 = X'.2.2.1 := zN_inj (by omega) (by omega) eh
    exact go k0 k1 X X' hk0 hk1 e0 e1 c0 c1 e e' hne (zN_inj (by omega) (by omega) er) eh'
