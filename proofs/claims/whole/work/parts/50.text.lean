/-! TEXTS IN THE MIDDLE: bytes (ch p, -1 behind the end), elements, rows, matrices; a fault is its place -/
def zch (t : Nat → Int32) (l p : Nat) : Int32 := if p < l then t p else -1
def zdg (c : Int32) : Option Nat := if 48 ≤ c.toInt ∧ c.toInt ≤ 57 then some (c.toInt - 48).toNat else none
def zdc (ch : Nat → Int32) : Nat → Nat → Nat
  | 0, _ => 0
  | f + 1, p => match zdg (ch p) with
    | none => 0
    | some _ => zdc ch f (p + 1) + 1
def zdgs (ch : Nat → Int32) (p : Nat) : Nat → Nat
  | 0 => 0
  | n + 1 => 10 * zdgs ch p n + (zdg (ch (p + n))).getD 0
/-- a number -/
def zpn (ch : Nat → Int32) (D b p : Nat) : (Nat × Nat) ⊕ Nat := if zdc ch 121 p = 0 ∨ D < zdc ch 121 p ∨ b < zdgs ch p (zdc ch 121 p) then .inr p else .inl (p + zdc ch 121 p, zdgs ch p (zdc ch 121 p))
def zsg (b : Bool) (x : Int32) : Int32 := bif b then -x else x
def zpmi (ch : Nat → Int32) (p : Nat) : Nat := bif decide (ch p = 45) then p + 1 else p
abbrev zPr : Type := (Nat × zE2) ⊕ Nat
def zpi (ch : Nat → Int32) (p : Nat) : zPr := match zpn ch 10 1000000000 (zpmi ch p) with
  | .inr f => .inr f
  | .inl q => .inl (q.1, (zsg (decide (ch p = 45)) (Int32.ofNat q.2), 0))
def zpg2 (ch : Nat → Int32) (q : Nat) : (Nat × Nat) ⊕ Nat := if (zdg (ch (q + 1))).isSome = true then zpn ch 5 30000 (q + 1) else .inl (q + 1, 1)
def zpg (ch : Nat → Int32) (p : Nat) : zPr := if ch (zpmi ch p) = 105 then .inl (zpmi ch p + 1, (0, zsg (decide (ch p = 45)) 1)) else match zpn ch 5 30000 (zpmi ch p) with
  | .inr f => .inr f
  | .inl q => if ch q.1 = 105 then .inl (q.1 + 1, (0, zsg (decide (ch p = 45)) (Int32.ofNat q.2))) else if ch q.1 = 43 ∨ ch q.1 = 45 then (match zpg2 ch q.1 with
      | .inr f => .inr f
      | .inl u => if ch u.1 = 105 then .inl (u.1 + 1, (zsg (decide (ch p = 45)) (Int32.ofNat q.2), zsg (decide (ch q.1 = 45)) (Int32.ofNat u.2))) else .inr u.1)
    else .inl (q.1, (zsg (decide (ch p = 45)) (Int32.ofNat q.2), 0))
/-- a power of x: place behind it, exponent -/
def zpx (ch : Nat → Int32) (p : Nat) : (Nat × Nat) ⊕ Nat := if ch p = 120 then (if ch (p + 1) = 94 then (match zdg (ch (p + 2)) with
    | none => .inr (p + 2)
    | some e => if e < 8 then .inl (p + 3, e) else .inr (p + 2)) else .inl (p + 1, 1)) else .inl (p, 0)
/-- a term: place behind it, exponent, coefficient -/
def zptm (ch : Nat → Int32) (r b p : Nat) : (Nat × Nat × Nat) ⊕ Nat := match zdg (ch p) with
  | none => if ch p = 120 then (match zpx ch p with
    | .inr f => .inr f
    | .inl q => if b ≤ q.2 then .inr p else .inl (q.1, q.2, 1)) else .inr p
  | some c => if r ≤ c then .inr p else match zpx ch (p + 1) with
    | .inr f => .inr f
    | .inl q => if b ≤ q.2 then .inr p else .inl (q.1, q.2, c)
def zuF (F : Nat → Nat) (e c : Nat) : Nat → Nat := fun k => if k = e then c else F k
def zpp (ch : Nat → Int32) (r : Nat) : Nat → Nat → Nat → (Nat → Nat) → zPr
  | 0, _, p, _ => .inr p
  | n + 1, b, p, F => match zptm ch r b p with
    | .inr f => .inr f
    | .inl q => if ch q.1 = 43 then zpp ch r n q.2.1 (q.1 + 1) (zuF F q.2.1 q.2.2) else .inl (q.1, (Int32.ofNat (zho r (zuF F q.2.1 q.2.2) 8), 0))
def zpe (ch : Nat → Int32) (r p : Nat) : zPr := match r with
  | 0 => zpi ch p
  | 1 => zpg ch p
  | q => zpp ch q 9 8 p (fun _ => 0)
def zprw (ch : Nat → Int32) (r most : Nat) : Nat → Nat → Nat → zVe → (Nat × Nat × zVe) ⊕ Nat
  | 0, _, p, _ => .inr p
  | f + 1, n, p, C => match zpe ch r p with
    | .inr x => .inr x
    | .inl q => if n + 1 < most ∧ ch q.1 = 44 then zprw ch r most f (n + 1) (q.1 + 1) (zvu C n q.2) else .inl (q.1, n + 1, zvu C n q.2)
def zuR (E : zMe) (a : Nat) (C : zVe) : zMe := fun i c => if i = a then C c else E i c
def zpm (ch : Nat → Int32) (r : Nat) : Nat → Nat → Nat → Nat → zMe → (Nat × Nat × Nat × zMe) ⊕ Nat
  | 0, _, _, p, _ => .inr p
  | f + 1, row, w, p, E => match zprw ch r (if row = 0 then 4 else w) 4 0 p (fun _ => (0, 0)) with
    | .inr x => .inr x
    | .inl q => if q.2.1 < (if row = 0 then q.2.1 else w) then .inr q.1 else if row < 3 ∧ ch q.1 = 59 then zpm ch r f (row + 1) (if row = 0 then q.2.1 else w) (q.1 + 1) (zuR E row q.2.2)
      else if ch q.1 = 93 then .inl (row + 1, (if row = 0 then q.2.1 else w), q.1 + 1, zuR E row q.2.2) else .inr q.1
/-- a text as a matrix: rows, columns, entries -/
def zpa (ch : Nat → Int32) (l r : Nat) : (Nat × Nat × zMe) ⊕ Nat := if ch 0 = 91 then (match zpm ch r 4 0 0 1 zZ with
  | .inr f => .inr f
  | .inl q => if q.2.2.1 < l then .inr q.2.2.1 else .inl (q.1, q.2.1, q.2.2.2)) else .inr 0
def zLe (ch : Nat → Int32) : Prop := ∀ p, 120 ≤ p → ch p = -1
theorem zLe_c {ch : Nat → Int32} (hL : zLe ch) {p : Nat} {c : Int32} (h : ch p = c) (hc : c ≠ -1) : p < 120 := by
  apply Classical.byContradiction
  intro hn
  exact hc (h.symm.trans (hL p (by omega)))
theorem zdg_some {c : Int32} {d : Nat} (h : zdg c = some d) : d ≤ 9 ∧ c = Int32.ofNat (48 + d) := by
  unfold zdg at h
  split at h
  · rename_i hc
    cases h
    refine ⟨by omega, ?_⟩
    obtain ⟨k, hk, rfl⟩ := zNn0 (x := c) (by omega)
    rw [zN_i hk] at hc ⊢
    congr 1
    omega
  · cases h
theorem zdg_n {c : Int32} (h : zdg c = none) : ¬ (48 ≤ c.toInt ∧ c.toInt ≤ 57) := by
  unfold zdg at h
  split at h
  · cases h
  · assumption
theorem zdg_d {d : Nat} (h : d ≤ 9) : zdg (Int32.ofNat (48 + d)) = some d := by
  unfold zdg
  rw [zN_i (by omega), if_pos (by omega)]
  congr 1
  omega
theorem zdg_L {ch : Nat → Int32} (hL : zLe ch) {p d : Nat} (h : zdg (ch p) = some d) : p < 120 := by
  apply Classical.byContradiction
  intro hn
  rw [hL p (by omega), show zdg (-1) = none by decide] at h
  cases h
theorem zdg_v {d : Nat} : Int32.ofNat (48 + d) - 48 = Int32.ofNat d := (zN_sb (a := 48 + d) (b := 48) rfl rfl (by omega)).trans (by rw [Nat.add_sub_cancel_left])
theorem zhere_c {ch : Nat → Int32} {tx : Nat → Int32} {len p : Nat} {c : Int32} (h : ∀ p, zch tx len p = ch p) (hc : c ≠ -1) : zhere tx len p c = decide (ch p = c) := by
  rw [← h p]
  unfold zhere zch
  by_cases hp : p < len
  · rw [if_pos hp, decide_eq_true hp, Bool.true_and]
  · rw [if_neg hp, decide_eq_false hp, Bool.false_and, decide_eq_false (fun e => hc e.symm)]
theorem zdgh_c {ch : Nat → Int32} {tx : Nat → Int32} {len p : Nat} (h : ∀ p, zch tx len p = ch p) : zdgh tx len p = (zdg (ch p)).isSome := by
  rw [← h p]
  unfold zdgh zch
  by_cases hp : p < len
  · rw [if_pos hp, decide_eq_true hp, Bool.true_and, Bool.eq_iff_iff, zin_iff, Int32.toInt_toInt64, show Int64.toInt 48 = 48 from rfl, show Int64.toInt 57 = 57 from rfl]
    unfold zdg
    split
    · rename_i hc; exact ⟨fun _ => rfl, fun _ => hc⟩
    · rename_i hc; exact ⟨fun h => absurd h hc, fun h => (by cases h)⟩
  · rw [if_neg hp, decide_eq_false hp, Bool.false_and]; rfl
theorem ztx_c {ch : Nat → Int32} {tx : Nat → Int32} {len p : Nat} {c : Int32} (h : ∀ p, zch tx len p = ch p) (e : ch p = c) (hc : c ≠ -1) : p < len ∧ tx p = c := by
  have h1 := h p
  rw [e] at h1
  unfold zch at h1
  split at h1
  · exact ⟨by assumption, h1⟩
  · exact absurd h1.symm hc
theorem ztx_d {ch : Nat → Int32} {tx : Nat → Int32} {len p d : Nat} (h : ∀ p, zch tx len p = ch p) (e : zdg (ch p) = some d) : p < len ∧ tx p = Int32.ofNat (48 + d) := by
  obtain ⟨h9, ec⟩ := zdg_some e
  refine ztx_c h ec (fun hh => ?_)
  have := congrArg Int32.toInt hh
  rw [zN_i (by omega)] at this
  have h1 : Int32.toInt (-1) = -1 := rfl
  omega
/-- the digits that stand at a place -/
theorem zdc_s {ch : Nat → Int32} (hL : zLe ch) : ∀ (f p : Nat), 120 < p + f → (∀ i, i < zdc ch f p → (zdg (ch (p + i))).isSome = true) ∧ zdg (ch (p + zdc ch f p)) = none ∧ (p ≤ 120 → p + zdc ch f p ≤ 120)
  | 0, p, h => by
    refine ⟨fun i hi => absurd hi (Nat.not_lt_zero i), ?_, fun h => (by omega)⟩
    show zdg (ch (p + 0)) = none
    rw [hL _ (by omega)]; decide
  | f + 1, p, h => by
    cases e : zdg (ch p) with
    | none =>
      have e0 : zdc ch (f + 1) p = 0 := by rw [zdc, e]
      rw [e0]
      exact ⟨fun i hi => absurd hi (Nat.not_lt_zero i), e, fun h => h⟩
    | some d =>
      have e0 : zdc ch (f + 1) p = zdc ch f (p + 1) + 1 := by rw [zdc, e]
      have hp := zdg_L hL e
      obtain ⟨i1, i2, i3⟩ := zdc_s hL f (p + 1) (by omega)
      rw [e0]
      refine ⟨fun i hi => ?_, ?_, fun _ => ?_⟩
      · cases i with
        | zero => rw [Nat.add_zero, e]; rfl
        | succ i => rw [show p + (i + 1) = p + 1 + i by omega]; exact i1 i (by omega)
      · rw [show p + (zdc ch f (p + 1) + 1) = p + 1 + zdc ch f (p + 1) by omega]; exact i2
      · have := i3 (by omega); omega
theorem zdc_121 {ch : Nat → Int32} (hL : zLe ch) (p : Nat) : (∀ i, i < zdc ch 121 p → (zdg (ch (p + i))).isSome = true) ∧ zdg (ch (p + zdc ch 121 p)) = none ∧ (p ≤ 120 → p + zdc ch 121 p ≤ 120) := zdc_s hL 121 p (by omega)
theorem zdgs_lt (ch : Nat → Int32) (p : Nat) : ∀ n, zdgs ch p n < 10 ^ n
  | 0 => by show 0 < 1; omega
  | n + 1 => by
    have ih := zdgs_lt ch p n
    have : (zdg (ch (p + n))).getD 0 ≤ 9 := by
      cases e : zdg (ch (p + n)) with
      | none => exact Nat.zero_le 9
      | some d => exact (zdg_some e).1
    rw [zdgs, Nat.pow_succ]
    omega
theorem zpn_ok {ch : Nat → Int32} {D b p : Nat} (hL : zLe ch) (hp : p ≤ 120) {q : Nat × Nat} (e : zpn ch D b p = .inl q) : q.1 ≤ 120 ∧ q.2 ≤ b := by
  unfold zpn at e
  split at e
  · cases e
  · rename_i h
    cases e
    exact ⟨(zdc_121 hL p).2.2 hp, by omega⟩
theorem zpn_f {ch : Nat → Int32} {D b p f : Nat} (e : zpn ch D b p = .inr f) : f = p := by
  unfold zpn at e
  split at e
  · cases e; rfl
  · cases e
theorem zpmi_le {ch : Nat → Int32} (hL : zLe ch) {p : Nat} (hp : p ≤ 120) : zpmi ch p ≤ 120 := by
  unfold zpmi
  by_cases h : ch p = 45
  · rw [decide_eq_true h, cond_true]
    have := zLe_c hL h (by decide)
    omega
  · rw [decide_eq_false h, cond_false]; exact hp
/-! THE REFERENCE READS -/
theorem zLof {n : Nat} (v : Nat) (h : n = v) : Int64.ofNat n = Int64.ofNat v := by rw [h]
/-- readsNumber -/
theorem s234 {K : zKt} {code rf rs pr pn ef es : Int32} {bad fin : Bool} {len rr rc om : Nat} {m pa pb pc vf vs tx rd ou : Nat → Int32} {w : Nat → Int64} {p : Nat × Nat} {Q : zR → zH → Prop} {ch : Nat → Int32} {D b p0 : Nat} (hL : zLe ch) (hc : ∀ p, zch tx len p = ch p) (hl : len ≤ 120) (hD : D ≤ 10) (hb : b ≤ 1000000000) (hp : p0 ≤ 120)
    (H1 : ∀ q v, zpn ch D b p0 = .inl (q, v) → Q (.inl (some (.int (Int32.ofNat v)))) (zh K (code, rf, rs, bad, pr, pn, len, q, fin, ef, es, rr, rc, om) (m, pa, pb, pc, vf, vs, tx, rd, ou) w)) (H2 : zpn ch D b p0 = .inr p0 → Q (.inl (some (.int 0))) (zh K (code, rf, rs, bad, pr, pn, len, p0, false, ef, es, rr, rc, om) (m, pa, pb, pc, vf, vs, tx, rd, ou) w)) :
    zT zm_234 [.ref 75, .int (Int32.ofNat D), .long (Int64.ofNat b)] p (zh K (code, rf, rs, bad, pr, pn, len, p0, fin, ef, es, rr, rc, om) (m, pa, pb, pc, vf, vs, tx, rd, ou) w) Q := by
  obtain ⟨d1, d2, d3⟩ := zdc_121 hL p0
  have d3 := d3 hp
  have lp : ∀ (n k : Nat), k + n = zdc ch 121 p0 → zW zm_234 9 [some (.ref 75), some (.int (Int32.ofNat D)), some (.long (Int64.ofNat b)), none, some (.int (Int32.ofNat p0)), some (.long (Int64.ofNat (zdgs ch p0 (min k 11)))), none] [] p (zh K (code, rf, rs, bad, pr, pn, len, (p0 + k), fin, ef, es, rr, rc, om) (m, pa, pb, pc, vf, vs, tx, rd, ou) w) Q := by
    intro n
    induction n with
    | zero =>
      intro k hk
      have ek : k = zdc ch 121 p0 := by omega
      refine b234_9 ?_
      rw [zdgh_c hc, ek, d2]
      refine ⟨hl, by omega, fun _ => ⟨by omega, by omega, fun h0 => H2 ?_, fun h0 => ?_⟩, fun h => (by cases h)⟩
      · unfold zpn; rw [if_pos (Or.inl (by omega))]
      · rw [show Int32.ofNat (p0 + zdc ch 121 p0) - Int32.ofNat p0 = Int32.ofNat (zdc ch 121 p0) from (zN_sb rfl rfl (by omega)).trans (by rw [Nat.add_sub_cancel_left])]
        have hlt : Int32.ofNat D < Int32.ofNat (zdc ch 121 p0) ↔ D < zdc ch 121 p0 := by rw [Int32.lt_iff_toInt_lt, zN_i (by omega), zN_i (by omega)]; omega
        rw [hlt]
        refine ⟨fun h => H2 ?_, fun h => ?_⟩
        · unfold zpn; rw [if_pos (Or.inr (Or.inl h))]
        · have hm : min (zdc ch 121 p0) 11 = zdc ch 121 p0 := by omega
          rw [hm]
          have v1 : zdgs ch p0 (zdc ch 121 p0) < 100000000000 := Nat.lt_of_lt_of_le (zdgs_lt ch p0 _) (Nat.le_trans (Nat.pow_le_pow_right (by omega) (show zdc ch 121 p0 ≤ 11 by omega)) (by decide))
          generalize hv : zdgs ch p0 (zdc ch 121 p0) = v at *
          have hle : Int64.ofNat v ≤ Int64.ofNat b ↔ v ≤ b := by rw [Int64.le_iff_toInt_le, zLN (by omega), zLN (by omega)]; omega
          rw [hle]
          refine ⟨fun h2 => ?_, fun h2 => H2 ?_⟩
          · rw [zLN32 (by omega)]
            exact H1 _ v (by unfold zpn; rw [hv, if_neg (by omega)])
          · unfold zpn; rw [hv, if_pos (Or.inr (Or.inr (by omega)))]
    | succ n ih =>
      intro k hk
      have hs := d1 k (by omega)
      refine b234_9 ?_
      rw [zdgh_c hc, hs]
      refine ⟨hl, by omega, fun h => (by cases h), fun _ => ?_⟩
      rw [show Int32.ofNat (p0 + k) - Int32.ofNat p0 = Int32.ofNat k from (zN_sb rfl rfl (by omega)).trans (by rw [Nat.add_sub_cancel_left]), show (11 : Int32) = Int32.ofNat 11 from rfl, zN_leI (by omega) (by omega)]
      obtain ⟨d, ed⟩ := Option.isSome_iff_exists.mp hs
      obtain ⟨t1, t2⟩ := ztx_d hc ed
      refine ⟨fun h => ?_, fun h => ⟨by omega, ?_⟩⟩
      · have := ih (k + 1) (by omega)
        rw [show min (k + 1) 11 = min k 11 by omega] at this
        exact this
      · have := ih (k + 1) (by omega)
        rw [show min (k + 1) 11 = k + 1 by omega, zdgs, ed, Option.getD_some] at this
        rw [show min k 11 = k by omega, t2]
        have h9 := (zdg_some ed).1
        rw [zNL (by omega), Int64.ofNat_add, show (10 : Int64) = Int64.ofNat 10 from rfl, show (48 : Int64) = Int64.ofNat 48 from rfl]
        rw [Int64.ofNat_add, Int64.ofNat_mul] at this
        have e1 : Int64.ofNat 10 * Int64.ofNat (zdgs ch p0 k) + (Int64.ofNat 48 + Int64.ofNat d) - Int64.ofNat 48 = Int64.ofNat 10 * Int64.ofNat (zdgs ch p0 k) + Int64.ofNat d := by
          rw [Int64.add_comm (Int64.ofNat 48), ← Int64.add_assoc, Int64.add_sub_cancel]
        rw [e1]
        exact this
  exact b234 (lp (zdc ch 121 p0) 0 (by omega))
theorem zsg_1 (x : Int32) : (1 : Int32) * x = zsg false x := Int32.one_mul x
theorem zsg_n (x : Int32) : (-1 : Int32) * x = zsg true x := by
  show (-1 : Int32) * x = -x
  rw [show (-1 : Int32) = -(1 : Int32) from rfl, Int32.neg_mul, Int32.one_mul]
/-- readsInteger -/
theorem s232 {K : zKt} {code rf rs pr pn ef es : Int32} {bad : Bool} {len rr rc om : Nat} {m pa pb pc vf vs tx rd ou : Nat → Int32} {w : Nat → Int64} {p : Nat × Nat} {Q : zR → zH → Prop} {ch : Nat → Int32} {p0 : Nat} (hL : zLe ch) (hc : ∀ p, zch tx len p = ch p) (hl : len ≤ 120) (hp : p0 ≤ 120) (H1 : ∀ q e, zpi ch p0 = .inl (q, e) → Q (.inl none) (zh K (code, rf, rs, bad, pr, pn, len, q, true, e.1, e.2, rr, rc, om) (m, pa, pb, pc, vf, vs, tx, rd, ou) w)) (H2 : ∀ f, zpi ch p0 = .inr f → ∀ ef' es', Q (.inl none) (zh K (code, rf, rs, bad, pr, pn, len, f, false, ef', es', rr, rc, om) (m, pa, pb, pc, vf, vs, tx, rd, ou) w)) : zT zm_232 [.ref 75] p (zh K (code, rf, rs, bad, pr, pn, len, p0, true, ef, es, rr, rc, om) (m, pa, pb, pc, vf, vs, tx, rd, ou) w) Q := by
  have go : zW zm_232 4 [some (.ref 75), none, none] [.int (zbi (decide (ch p0 = 45)))] p (zh K (code, rf, rs, bad, pr, pn, len, (zpmi ch p0), true, ef, es, rr, rc, om) (m, pa, pb, pc, vf, vs, tx, rd, ou) w) Q := by
    refine b232_4 (s234 (D := 10) (b := 1000000000) hL hc hl (by omega) (by omega) (zpmi_le hL hp) (fun q v e => b232_14 ?_) (fun e => b232_14 ?_))
    · have h := H1 q (zsg (decide (ch p0 = 45)) (Int32.ofNat v), 0) (by unfold zpi; rw [e])
      refine ⟨fun hx => ?_, fun hx => ?_⟩
      · rw [hx] at h; exact h
      · rw [hx] at h; exact h
    · have h := H2 (zpmi ch p0) (by unfold zpi; rw [e])
      exact ⟨fun _ => h _ _, fun _ => h _ _⟩
  refine b232 (b233 ?_)
  rw [zhere_c hc (by decide)]
  refine ⟨hl, by omega, fun h => ?_, fun h => ?_⟩
  · have e : zpmi ch p0 = p0 := by unfold zpmi; rw [h]; rfl
    rw [e] at go; exact go
  · have e : zpmi ch p0 = p0 + 1 := by unfold zpmi; rw [h]; rfl
    rw [e] at go; exact go
/-- readsGaussian -/
theorem s236 {K : zKt} {code rf rs pr pn ef es : Int32} {bad : Bool} {len rr rc om : Nat} {m pa pb pc vf vs tx rd ou : Nat → Int32} {w : Nat → Int64} {p : Nat × Nat} {Q : zR → zH → Prop} {ch : Nat → Int32} {p0 : Nat} (hL : zLe ch) (hc : ∀ p, zch tx len p = ch p) (hl : len ≤ 120) (hp : p0 ≤ 120) (H1 : ∀ q e, zpg ch p0 = .inl (q, e) → Q (.inl none) (zh K (code, rf, rs, bad, pr, pn, len, q, true, e.1, e.2, rr, rc, om) (m, pa, pb, pc, vf, vs, tx, rd, ou) w)) (H2 : ∀ f, zpg ch p0 = .inr f → ∀ ef' es', Q (.inl none) (zh K (code, rf, rs, bad, pr, pn, len, f, false, ef', es', rr, rc, om) (m, pa, pb, pc, vf, vs, tx, rd, ou) w)) : zT zm_236 [.ref 75] p (zh K (code, rf, rs, bad, pr, pn, len, p0, true, ef, es, rr, rc, om) (m, pa, pb, pc, vf, vs, tx, rd, ou) w) Q := by
  have hpm := zpmi_le hL hp
  have g137 : ∀ (s0 ef1 : Int32) (b2 : Bool) (q : Nat), (∀ x, s0 * x = zsg b2 x) → b2 = decide (ch q = 45) → (ch q = 43 ∨ ch q = 45) → ((∀ u v, zpg2 ch q = .inl (u, v) → ch u = 105 → Q (.inl none) (zh K (code, rf, rs, bad, pr, pn, len, (u + 1), true, ef1, (zsg b2 (Int32.ofNat v)), rr, rc, om) (m, pa, pb, pc, vf, vs, tx, rd, ou) w)) → (∀ u v, zpg2 ch q = .inl (u, v) → ch u ≠ 105 → ∀ es', Q (.inl none) (zh K (code, rf, rs, bad, pr, pn, len, u, false, ef1, es', rr, rc, om) (m, pa, pb, pc, vf, vs, tx, rd, ou) w)) → (∀ f, zpg2 ch q = .inr f → ∀ es', Q (.inl none) (zh K (code, rf, rs, bad, pr, pn, len, f, false, ef1, es', rr, rc, om) (m, pa, pb, pc, vf, vs, tx, rd, ou) w)) →
      zW zm_236 137 [some (.ref 75), none, none, none] [.int s0] p (zh K (code, rf, rs, bad, pr, pn, len, q, true, ef1, (0 : Int32), rr, rc, om) (m, pa, pb, pc, vf, vs, tx, rd, ou) w) Q) := by
    intro s0 ef1 b2 q hs hb2 hq K1 K2 K3
    have hq2 : q < 120 := by
      rcases hq with h | h
      · exact zLe_c hL h (by decide)
      · exact zLe_c hL h (by decide)
    refine b236_137 ?_
    rw [zdgh_c hc, zhere_c hc (by decide), Bool.true_and]
    refine ⟨hl, by omega, fun nd => ⟨hl, by omega, fun h => ?_, fun h => ?_⟩, fun d => ?_⟩
    · have e2 : zpg2 ch q = .inl (q + 1, 1) := by unfold zpg2; rw [if_neg (by rw [nd]; decide)]
      rw [h]
      exact K2 (q + 1) 1 e2 (of_decide_eq_false h) _
    · have e2 : zpg2 ch q = .inl (q + 1, 1) := by unfold zpg2; rw [if_neg (by rw [nd]; decide)]
      rw [h, hs]
      exact K1 (q + 1) 1 e2 (of_decide_eq_true h)
    · have e2 : zpg2 ch q = zpn ch 5 30000 (q + 1) := by unfold zpg2; rw [if_pos d]
      refine s234 (D := 5) (b := 30000) hL hc hl (by omega) (by omega) (by omega) (fun u v e => b236_165 ?_) (fun e => b236_165 ?_)
      · have hu := (zpn_ok hL (by omega) e).1
        rw [zhere_c hc (by decide), Bool.true_and, hs]
        refine ⟨hl, by omega, fun h => ?_, fun h => ?_⟩
        · rw [h]; exact K2 u v (e2.trans e) (of_decide_eq_false h) _
        · rw [h]; exact K1 u v (e2.trans e) (of_decide_eq_true h)
      · exact ⟨hl, by omega, fun h => K3 (q + 1) (e2.trans e) _, fun h => (by cases h)⟩
  have go : ∀ (b : Bool) (s : Int32), (∀ x, s * x = zsg b x) → b = decide (ch p0 = 45) → ch (zpmi ch p0) ≠ 105 → zT zm_234 [.ref 75, .int (5 : Int32), .long (30000 : Int64)] p (zh K (code, rf, rs, bad, pr, pn, len, (zpmi ch p0), true, (0 : Int32), (0 : Int32), rr, rc, om) (m, pa, pb, pc, vf, vs, tx, rd, ou) w) (zK zm_236 56 [some (.ref 75), some (.int s), none, none] [] p Q) := by
    intro b s hs hb hi
    refine s234 (D := 5) (b := 30000) hL hc hl (by omega) (by omega) hpm (fun q v e => b236_56 ?_) (fun e => b236_56 ⟨fun _ => b236_91 ⟨fun _ => H2 (zpmi ch p0) (by unfold zpg; rw [if_neg hi, e]) _ _, fun h => (by cases h)⟩, fun h => (by cases h)⟩)
    have hq := (zpn_ok hL hpm e).1
    have eg : zpg ch p0 = if ch q = 105 then .inl (q + 1, (0, zsg b (Int32.ofNat v))) else if ch q = 43 ∨ ch q = 45 then (match zpg2 ch q with
        | .inr f => .inr f
        | .inl u => if ch u.1 = 105 then .inl (u.1 + 1, (zsg b (Int32.ofNat v), zsg (decide (ch q = 45)) (Int32.ofNat u.2))) else .inr u.1)
      else .inl (q, (zsg b (Int32.ofNat v), 0)) := by
      unfold zpg
      rw [if_neg hi, e, hb]
    rw [zhere_c hc (by decide), hs]
    refine ⟨fun h => (by cases h), fun _ => ⟨hl, by omega, fun h => ?_, fun h => ?_⟩⟩
    · have h := of_decide_eq_false h
      rw [if_neg h] at eg
      refine b236_91 ?_
      rw [zhere_c hc (by decide), zhere_c hc (by decide), hs]
      have g2 : ∀ (s0 : Int32), (∀ x, s0 * x = zsg (decide (ch q = 45)) x) → (ch q = 43 ∨ ch q = 45) → zW zm_236 137 [some (.ref 75), none, none, none] [.int s0] p (zh K (code, rf, rs, bad, pr, pn, len, q, true, (zsg b (Int32.ofNat v)), (0 : Int32), rr, rc, om) (m, pa, pb, pc, vf, vs, tx, rd, ou) w) Q := by
        intro s0 hs0 hq4
        rw [if_pos hq4] at eg
        refine g137 s0 _ _ q hs0 rfl hq4 (fun u v2 e2 h2 => ?_) (fun u v2 e2 h2 es' => ?_) (fun f e2 es' => ?_)
        · rw [e2] at eg
          exact H1 (u + 1) (zsg b (Int32.ofNat v), zsg (decide (ch q = 45)) (Int32.ofNat v2)) (eg.trans (if_pos h2))
        · rw [e2] at eg
          exact H2 u (eg.trans (if_neg h2)) _ _
        · rw [e2] at eg
          exact H2 f eg _ _
      refine ⟨fun h => (by cases h), fun _ => ⟨hl, by omega, fun h43 => ⟨hl, by omega, fun h => (by rw [h43] at h; cases h), fun _ => g2 1 (fun x => ?_) (Or.inl (of_decide_eq_true h43))⟩, fun n43 => ⟨hl, by omega, fun n45 => ?_, fun h45 => ⟨hl, by omega, fun _ => g2 (-1) (fun x => ?_) (Or.inr (of_decide_eq_true h45)), fun h => (by rw [n43] at h; cases h)⟩⟩⟩⟩
      · rw [decide_eq_false (show ¬ ch q = 45 by rw [of_decide_eq_true h43]; decide)]; exact zsg_1 x
      · rw [if_neg (fun h => h.elim (of_decide_eq_false n43) (of_decide_eq_false n45))] at eg
        exact H1 q (zsg b (Int32.ofNat v), 0) eg
      · rw [h45]; exact zsg_n x
    · rw [if_pos (of_decide_eq_true h)] at eg
      exact H1 (q + 1) (0, zsg b (Int32.ofNat v)) eg
  have g4 : zW zm_236 4 [some (.ref 75), none, none, none] [.int (zbi (decide (ch p0 = 45)))] p (zh K (code, rf, rs, bad, pr, pn, len, (zpmi ch p0), true, ef, es, rr, rc, om) (m, pa, pb, pc, vf, vs, tx, rd, ou) w) Q := by
    refine b236_4 ?_
    rw [zhere_c hc (by decide)]
    have fi : ∀ b, b = decide (ch p0 = 45) → decide (ch (zpmi ch p0) = 105) = true → Q (.inl none) (zh K (code, rf, rs, bad, pr, pn, len, (zpmi ch p0 + 1), true, (0 : Int32), (zsg b 1), rr, rc, om) (m, pa, pb, pc, vf, vs, tx, rd, ou) w) := by
      intro b hb h
      exact H1 (zpmi ch p0 + 1) (0, zsg b 1) (by unfold zpg; rw [if_pos (of_decide_eq_true h), hb])
    exact ⟨fun hb => ⟨hl, by omega, fun h => go false 1 zsg_1 hb.symm (of_decide_eq_false h), fun h => fi false hb.symm h⟩, fun hb => ⟨hl, by omega, fun h => go true (-1) zsg_n hb.symm (of_decide_eq_false h), fun h => fi true hb.symm h⟩⟩
  refine b236 (b233 ?_)
  rw [zhere_c hc (by decide)]
  refine ⟨hl, by omega, fun h => ?_, fun h => ?_⟩
  · have e : zpmi ch p0 = p0 := by unfold zpmi; rw [h]; rfl
    rw [e] at g4; exact g4
  · have e : zpmi ch p0 = p0 + 1 := by unfold zpmi; rw [h]; rfl
    rw [e] at g4; exact g4
theorem zpx_ok {ch : Nat → Int32} (hL : zLe ch) {p q e : Nat} (hp : p ≤ 120) (h : zpx ch p = .inl (q, e)) : q ≤ 120 ∧ e < 8 := by
  unfold zpx at h
  split at h
  · rename_i h1
    have := zLe_c hL h1 (by decide)
    split at h
    · rename_i h2
      split at h
      · cases h
      · rename_i d hd
        have := zdg_L hL hd
        split at h
        · cases h; exact ⟨by omega, by assumption⟩
        · cases h
    · cases h; exact ⟨by omega, by omega⟩
  · cases h; exact ⟨hp, by omega⟩
theorem zptm_ok {ch : Nat → Int32} (hL : zLe ch) {r b p q e c : Nat} (hr : 2 ≤ r) (hp : p ≤ 120) (h : zptm ch r b p = .inl (q, e, c)) : q ≤ 120 ∧ e < 8 ∧ e < b ∧ c < r := by
  unfold zptm at h
  split at h
  · split at h
    · split at h
      · cases h
      · rename_i u hu
        split at h
        · cases h
        · cases h
          obtain ⟨h1, h2⟩ := zpx_ok hL hp hu
          exact ⟨h1, h2, by omega, by omega⟩
    · cases h
  · rename_i c' hc'
    have := zdg_L hL hc'
    split at h
    · cases h
    · split at h
      · cases h
      · rename_i u hu
        split at h
        · cases h
        · cases h
          obtain ⟨h1, h2⟩ := zpx_ok hL (by omega) hu
          exact ⟨h1, h2, by omega, by omega⟩
/-- readsTerm -/
theorem s238 {K : zKt} {code rf rs pr pn ef es : Int32} {bad : Bool} {len rr rc om : Nat} {m pa pb pc vf vs tx rd ou : Nat → Int32} {w : Nat → Int64} {p : Nat × Nat} {Q : zR → zH → Prop} {ch : Nat → Int32} {r b p0 : Nat} (hL : zLe ch) (hc : ∀ p, zch tx len p = ch p) (hl : len ≤ 120) (hr : 2 ≤ r) (hr7 : r ≤ 7) (hb : b ≤ 8) (hp : p0 ≤ 120)
    (H1 : ∀ q e c, zptm ch r b p0 = .inl (q, e, c) → Q (.inl (some (.int (Int32.ofNat e)))) (zh K (code, rf, rs, bad, pr, pn, len, q, true, (ef + Int32.ofNat (c * r ^ e)), es, rr, rc, om) (m, pa, pb, pc, vf, vs, tx, rd, ou) w)) (H2 : ∀ f, zptm ch r b p0 = .inr f → ∀ x ef', Q (.inl (some (.int x))) (zh K (code, rf, rs, bad, pr, pn, len, f, false, ef', es, rr, rc, om) (m, pa, pb, pc, vf, vs, tx, rd, ou) w)) :
    zT zm_238 [.ref 75, .int (Int32.ofNat r), .int (Int32.ofNat b)] p (zh K (code, rf, rs, bad, pr, pn, len, p0, true, ef, es, rr, rc, om) (m, pa, pb, pc, vf, vs, tx, rd, ou) w) Q := by
  have l226 : ∀ (x5 x6 : Int32) (f : Nat), zptm ch r b p0 = .inr f → zW zm_238 226 [some (.ref 75), some (.int (Int32.ofNat r)), none, none, none, some (.int x5), some (.int x6), none] [] p (zh K (code, rf, rs, bad, pr, pn, len, f, false, ef, es, rr, rc, om) (m, pa, pb, pc, vf, vs, tx, rd, ou) w) Q := by
    intro x5 x6 f hf
    exact b238_226 (b238_229 ⟨fun _ => ⟨fun _ => H2 f hf _ _, fun h => (by cases h)⟩, fun _ => ⟨fun _ => ⟨fun _ => H2 f hf _ _, fun h => (by cases h)⟩, fun h => (by cases h)⟩⟩)
  have l203f : ∀ (x5 x6 : Int32) (f : Nat), zptm ch r b p0 = .inr f → zW zm_238 203 [some (.ref 75), some (.int (Int32.ofNat r)), some (.int (Int32.ofNat b)), some (.int (Int32.ofNat p0)), none, some (.int x5), some (.int x6), none] [] p (zh K (code, rf, rs, bad, pr, pn, len, f, false, ef, es, rr, rc, om) (m, pa, pb, pc, vf, vs, tx, rd, ou) w) Q := by
    intro x5 x6 f hf
    exact b238_203 ⟨fun _ => l226 x5 x6 f hf, fun h => (by cases h)⟩
  have l203 : ∀ (c q e : Nat), e < 8 → q ≤ 120 → (b ≤ e → zptm ch r b p0 = .inr p0) → (¬ b ≤ e → zptm ch r b p0 = .inl (q, e, c)) → zW zm_238 203 [some (.ref 75), some (.int (Int32.ofNat r)), some (.int (Int32.ofNat b)), some (.int (Int32.ofNat p0)), none, some (.int (Int32.ofNat c)), some (.int (Int32.ofNat e)), none] [] p (zh K (code, rf, rs, bad, pr, pn, len, q, true, ef, es, rr, rc, om) (m, pa, pb, pc, vf, vs, tx, rd, ou) w) Q := by
    intro c q e he hq k1 k2
    refine b238_203 ⟨fun h => (by cases h), fun _ => ?_⟩
    have hlt : Int32.ofNat e < Int32.ofNat b ↔ e < b := by rw [Int32.lt_iff_toInt_lt, zN_i (by omega), zN_i (by omega)]; omega
    rw [hlt]
    refine ⟨fun h => b238_226 ?_, fun h => l226 _ _ p0 (k1 (by omega))⟩
    have h1 := H1 q e c (k2 (by omega))
    have lp : ∀ (n k : Nat), k + n = e → zW zm_238 229 [some (.ref 75), some (.int (Int32.ofNat r)), none, none, none, some (.int (Int32.ofNat (c * r ^ k))), some (.int (Int32.ofNat e)), some (.int (Int32.ofNat k))] [] p (zh K (code, rf, rs, bad, pr, pn, len, q, true, ef, es, rr, rc, om) (m, pa, pb, pc, vf, vs, tx, rd, ou) w) Q := by
      intro n
      induction n with
      | zero =>
        intro k hk
        have : k = e := by omega
        subst this
        refine b238_229 ?_
        rw [zN_leI (by omega) (by omega)]
        exact ⟨fun _ => ⟨fun h => (by cases h), fun _ => h1⟩, fun h => absurd (by omega) h⟩
      | succ n ih =>
        intro k hk
        refine b238_229 ?_
        rw [zN_leI (by omega) (by omega)]
        refine ⟨fun h => absurd h (by omega), fun _ => ⟨fun h => (by cases h), fun _ => ?_⟩⟩
        have := ih (k + 1) (by omega)
        rw [Nat.pow_succ, ← Nat.mul_assoc, Int32.ofNat_mul] at this
        exact this
    have := lp e 0 (by omega)
    rw [Nat.pow_zero, Nat.mul_one] at this
    exact this
  have l85 : ∀ (c s1 s0 : Nat), s1 + s0 ≤ 120 → (∀ f, zpx ch (s1 + s0) = .inr f → zptm ch r b p0 = .inr f) → (∀ q e, zpx ch (s1 + s0) = .inl (q, e) → (b ≤ e → zptm ch r b p0 = .inr p0) ∧ (¬ b ≤ e → zptm ch r b p0 = .inl (q, e, c))) →
      zW zm_238 85 [some (.ref 75), some (.int (Int32.ofNat r)), some (.int (Int32.ofNat b)), some (.int (Int32.ofNat p0)), none, some (.int (Int32.ofNat c)), none, none] [.int (Int32.ofNat s0), .int (Int32.ofNat s1), .ref 75] p (zh K (code, rf, rs, bad, pr, pn, len, s1, true, ef, es, rr, rc, om) (m, pa, pb, pc, vf, vs, tx, rd, ou) w) Q := by
    intro c s1 s0 hs kf ks
    have fin1 : ∀ q e, zpx ch (s1 + s0) = .inl (q, e) → zW zm_238 203 [some (.ref 75), some (.int (Int32.ofNat r)), some (.int (Int32.ofNat b)), some (.int (Int32.ofNat p0)), none, some (.int (Int32.ofNat c)), some (.int (Int32.ofNat e)), none] [] p (zh K (code, rf, rs, bad, pr, pn, len, q, true, ef, es, rr, rc, om) (m, pa, pb, pc, vf, vs, tx, rd, ou) w) Q := by
      intro q e h
      obtain ⟨h1, h2⟩ := zpx_ok hL hs h
      exact l203 c q e h2 h1 (ks q e h).1 (ks q e h).2
    refine b238_85 ?_
    rw [zhere_c hc (by decide), zhere_c hc (by decide), zdgh_c hc]
    refine ⟨fun h => (by cases h), fun _ => ⟨hl, by omega, fun n120 => ?_, fun h120 => ?_⟩⟩
    · exact fin1 (s1 + s0) 0 (by unfold zpx; rw [if_neg (of_decide_eq_false n120)])
    · have h120 := of_decide_eq_true h120
      have b1 := zLe_c hL h120 (by decide)
      refine ⟨hl, by omega, fun n94 => fin1 (s1 + s0 + 1) 1 (by unfold zpx; rw [if_pos h120, if_neg (of_decide_eq_false n94)]), fun h94 => ?_⟩
      have h94 := of_decide_eq_true h94
      have b2 := zLe_c hL h94 (by decide)
      refine ⟨hl, by omega, fun nd => ⟨fun _ => ?_, fun h => (by cases h)⟩, fun hd => ?_⟩
      · refine l203f _ _ (s1 + s0 + 2) (kf _ ?_)
        unfold zpx
        rw [if_pos h120, if_pos h94, Option.isSome_eq_false_iff.mp nd |> Option.isNone_iff_eq_none.mp]
      · obtain ⟨d, ed⟩ := Option.isSome_iff_exists.mp hd
        obtain ⟨t1, t2⟩ := ztx_d hc ed
        have h9 := (zdg_some ed).1
        rw [t2, zdg_v, show (8 : Int32) = Int32.ofNat 8 from rfl, zN_leI (by omega) (by omega)]
        refine ⟨by omega, fun h8 => ⟨fun _ => ?_, fun h => (by cases h)⟩, fun h8 => ⟨fun h => (by cases h), fun _ => ?_⟩⟩
        · refine l203f _ _ (s1 + s0 + 2) (kf _ ?_)
          unfold zpx
          rw [if_pos h120, if_pos h94, ed]
          exact if_neg (by omega)
        · refine fin1 (s1 + s0 + 3) d ?_
          unfold zpx
          rw [if_pos h120, if_pos h94, ed]
          exact if_pos (by omega)
  have f85 : ∀ (c : Int32), zptm ch r b p0 = .inr p0 → zW zm_238 85 [some (.ref 75), some (.int (Int32.ofNat r)), some (.int (Int32.ofNat b)), some (.int (Int32.ofNat p0)), none, some (.int c), none, none] [.int (Int32.ofNat 0), .int (Int32.ofNat p0), .ref 75] p (zh K (code, rf, rs, bad, pr, pn, len, p0, false, ef, es, rr, rc, om) (m, pa, pb, pc, vf, vs, tx, rd, ou) w) Q := by
    intro c h
    exact b238_85 ⟨fun _ => l203f _ _ p0 h, fun h => (by cases h)⟩
  refine b238 ?_
  rw [zdgh_c hc, zhere_c hc (by decide)]
  cases hd : zdg (ch p0) with
  | none =>
    refine ⟨hl, by omega, fun _ => ⟨fun _ => ⟨hl, by omega, ?_⟩, fun h => (by cases h)⟩, fun h => (by cases h)⟩
    refine b238_60 (x4 := false) ?_
    rw [Bool.true_and]
    refine ⟨fun n120 => ?_, fun h120 => ⟨fun _ => ?_, fun h => (by cases h)⟩⟩
    · rw [n120]
      exact f85 _ (by unfold zptm; rw [hd]; exact if_neg (of_decide_eq_false n120))
    · have h120' := of_decide_eq_true h120
      rw [h120]
      refine l85 1 p0 0 (by omega) (fun f hf => ?_) (fun q e hq => ⟨fun h => ?_, fun h => ?_⟩)
      · unfold zptm; rw [hd]; show (if ch p0 = 120 then _ else _) = _
        rw [if_pos h120', show zpx ch p0 = .inr f from hf]
      · unfold zptm; rw [hd]; show (if ch p0 = 120 then _ else _) = _
        rw [if_pos h120', show zpx ch p0 = .inl (q, e) from hq]
        exact if_pos h
      · unfold zptm; rw [hd]; show (if ch p0 = 120 then _ else _) = _
        rw [if_pos h120', show zpx ch p0 = .inl (q, e) from hq]
        exact if_neg h
  | some d =>
    obtain ⟨t1, t2⟩ := ztx_d hc hd
    have h9 := (zdg_some hd).1
    have hp2 := zdg_L hL hd
    rw [t2, zdg_v, zN_leI (by omega) (by omega)]
    refine ⟨hl, by omega, fun h => (by cases h), fun _ => ⟨by omega, fun h => (by cases h), fun _ => ⟨fun hrd => ?_, fun hrd => ?_⟩⟩⟩
    · exact b238_60 (x4 := true) (s0 := false) ⟨fun _ => f85 _ (by unfold zptm; rw [hd]; exact if_pos hrd), fun h => (by cases h)⟩
    · refine b238_60 (x4 := true) (s0 := true) ⟨fun h => (by cases h), fun _ => ⟨fun h => (by cases h), fun _ => ?_⟩⟩
      refine l85 d p0 1 (by omega) (fun f hf => ?_) (fun q e hq => ⟨fun h => ?_, fun h => ?_⟩)
      · unfold zptm; rw [hd]; show (if r ≤ d then _ else _) = _
        rw [if_neg hrd, hf]
      · unfold zptm; rw [hd]; show (if r ≤ d then _ else _) = _
        rw [if_neg hrd, hq]
        exact if_pos h
      · unfold zptm; rw [hd]; show (if r ≤ d then _ else _) = _
        rw [if_neg hrd, hq]
        exact if_neg h
theorem zho_up {r : Nat} {F : Nat → Nat} {e c : Nat} (hc : c < r) (h0 : F e = 0) : ∀ n, n ≤ 8 → zho r (zuF F e c) n = zho r F n + (if 8 - n ≤ e ∧ e < 8 then c * r ^ (e - (8 - n)) else 0)
  | 0, _ => by
    rw [if_neg (by omega)]; rfl
  | n + 1, hn => by
    have ih := zho_up hc h0 n (by omega)
    simp only [zho]
    rw [ih]
    by_cases he : e = 7 - n
    · subst he
      have e1 : zuF F (7 - n) c (7 - n) = c := by unfold zuF; rw [if_pos rfl]
      rw [e1, h0, if_neg (by omega), if_pos (by omega), Nat.mod_eq_of_lt hc, show 7 - n - (8 - (n + 1)) = 0 by omega]
      simp
    · have e1 : zuF F e c (7 - n) = F (7 - n) := by unfold zuF; rw [if_neg (by omega)]
      rw [e1]
      by_cases h8 : 8 - n ≤ e ∧ e < 8
      · rw [if_pos h8, if_pos (show 8 - (n + 1) ≤ e ∧ e < 8 by omega), show e - (8 - (n + 1)) = e - (8 - n) + 1 by omega, Nat.pow_succ, Nat.add_mul, Nat.mul_assoc, Nat.add_right_comm]
      · rw [if_neg h8, if_neg (show ¬ (8 - (n + 1) ≤ e ∧ e < 8) by omega), Nat.add_zero, Nat.add_zero]
theorem zho_up8 {r : Nat} {F : Nat → Nat} {e c : Nat} (hc : c < r) (h0 : F e = 0) (he : e < 8) : zho r (zuF F e c) 8 = zho r F 8 + c * r ^ e := by
  rw [zho_up hc h0 8 (Nat.le_refl _), if_pos (by omega)]; rfl
/-- readsPolynomial -/
theorem s237 {K : zKt} {code rf rs pr pn ef es : Int32} {bad : Bool} {len rr rc om : Nat} {m pa pb pc vf vs tx rd ou : Nat → Int32} {w : Nat → Int64} {p : Nat × Nat} {Q : zR → zH → Prop} {ch : Nat → Int32} {r p0 : Nat} (hL : zLe ch) (hc : ∀ p, zch tx len p = ch p) (hl : len ≤ 120) (hr : zprm r) (hp : p0 ≤ 120) (H1 : ∀ q e, zpp ch r 9 8 p0 (fun _ => 0) = .inl (q, e) → Q (.inl none) (zh K (code, rf, rs, bad, pr, pn, len, q, true, e.1, e.2, rr, rc, om) (m, pa, pb, pc, vf, vs, tx, rd, ou) w)) (H2 : ∀ f, zpp ch r 9 8 p0 (fun _ => 0) = .inr f → ∀ ef' es', Q (.inl none) (zh K (code, rf, rs, bad, pr, pn, len, f, false, ef', es', rr, rc, om) (m, pa, pb, pc, vf, vs, tx, rd, ou) w)) : zT zm_237 [.ref 75, .int (Int32.ofNat r)] p (zh K (code, rf, rs, bad, pr, pn, len, p0, true, ef, es, rr, rc, om) (m, pa, pb, pc, vf, vs, tx, rd, ou) w) Q := by
  have hr7 := zprm_lt hr
  have lp : ∀ (n b p1 : Nat) (F : Nat → Nat), b < n → b ≤ 8 → p1 ≤ 120 → (∀ k, k < b → F k = 0) → zpp ch r n b p1 F = zpp ch r 9 8 p0 (fun _ => 0) → zW zm_237 15 [some (.ref 75), some (.int (Int32.ofNat r)), some (.int (Int32.ofNat b)), some (.int (zbi true))] [] p (zh K (code, rf, rs, bad, pr, pn, len, p1, true, (Int32.ofNat (zho r F 8)), (0 : Int32), rr, rc, om) (m, pa, pb, pc, vf, vs, tx, rd, ou) w) Q := by
    intro n
    induction n with
    | zero => intro b p1 F h; omega
    | succ n ih =>
      intro b p1 F hbn hb hp1 hF eo
      rw [zpp] at eo
      refine b237_15 ⟨fun h => (by cases h), fun _ => ⟨fun h => (by cases h), fun _ => s238 hL hc hl hr7.1 hr7.2 hb hp1 (fun q e c et => b237_32 ?_) (fun f et x ef' => b237_32 ?_)⟩⟩
      · obtain ⟨o1, o2, o3, o4⟩ := zptm_ok hL hr7.1 hp1 et
        rw [et] at eo
        have eo : (if ch q = 43 then zpp ch r n e (q + 1) (zuF F e c) else .inl (q, (Int32.ofNat (zho r (zuF F e c) 8), 0))) = _ := eo
        have ev := zho_up8 o4 (hF e o3) o2
        rw [zhere_c hc (by decide), ← Int32.ofNat_add, ← ev]
        refine ⟨fun h => (by cases h), fun _ => ⟨hl, by omega, fun h => ?_, fun h => ?_⟩⟩
        · rw [if_neg (of_decide_eq_false h)] at eo
          exact b237_15 (x3 := false) ⟨fun _ => H1 q _ eo.symm, fun h => (by cases h)⟩
        · have h := of_decide_eq_true h
          rw [if_pos h] at eo
          have := zLe_c hL h (by decide)
          exact ih e (q + 1) (zuF F e c) (by omega) (by omega) (by omega) (fun k hk => by unfold zuF; rw [if_neg (by omega)]; exact hF k (by omega)) eo
      · rw [et] at eo
        exact ⟨fun _ => b237_15 (x3 := false) ⟨fun _ => H2 f eo.symm _ _, fun h => (by cases h)⟩, fun h => (by cases h)⟩
  have z0 : zho r (fun _ => 0) 8 = 0 := by simp [zho]
  have := lp 9 8 p0 (fun _ => 0) (by omega) (by omega) hp (fun _ _ => rfl) rfl
  rw [z0] at this
  exact b237 this
theorem zpe_p {ch : Nat → Int32} {r p : Nat} (hr : zprm r) : zpe ch r p = zpp ch r 9 8 p (fun _ => 0) := by
  rcases hr with rfl | rfl | rfl | rfl <;> rfl
/-- readsElement -/
theorem s231 {K : zKt} {code rf rs pr pn ef es : Int32} {bad : Bool} {len rr rc om : Nat} {m pa pb pc vf vs tx rd ou : Nat → Int32} {w : Nat → Int64} {p : Nat × Nat} {Q : zR → zH → Prop} {ch : Nat → Int32} {r p0 : Nat} (hL : zLe ch) (hc : ∀ p, zch tx len p = ch p) (hl : len ≤ 120) (hr : zrg r) (hp : p0 ≤ 120) (H1 : ∀ q e, zpe ch r p0 = .inl (q, e) → Q (.inl none) (zh K (code, rf, rs, bad, pr, pn, len, q, true, e.1, e.2, rr, rc, om) (m, pa, pb, pc, vf, vs, tx, rd, ou) w)) (H2 : ∀ f, zpe ch r p0 = .inr f → ∀ ef' es', Q (.inl none) (zh K (code, rf, rs, bad, pr, pn, len, f, false, ef', es', rr, rc, om) (m, pa, pb, pc, vf, vs, tx, rd, ou) w)) : zT zm_231 [.ref 75, .int (Int32.ofNat r)] p (zh K (code, rf, rs, bad, pr, pn, len, p0, true, ef, es, rr, rc, om) (m, pa, pb, pc, vf, vs, tx, rd, ou) w) Q := by
  rcases zrg_c hr with rfl | rfl | hq
  · exact b231 ⟨fun h => absurd rfl h, fun _ => s232 hL hc hl hp (fun q e eo => b231_8 (H1 q e eo)) (fun f eo ef' es' => b231_8 (H2 f eo ef' es'))⟩
  · exact b231 ⟨fun _ => ⟨fun h => absurd rfl h, fun _ => s236 hL hc hl hp (fun q e eo => b231_20 (H1 q e eo)) (fun f eo ef' es' => b231_20 (H2 f eo ef' es'))⟩, fun h => absurd h (by decide)⟩
  · have n0 : ¬ Int32.ofNat r = 0 := by rcases hq with rfl | rfl | rfl | rfl <;> decide
    have n1 : ¬ Int32.ofNat r = 1 := by rcases hq with rfl | rfl | rfl | rfl <;> decide
    rw [zpe_p hq] at H1 H2
    exact b231 ⟨fun _ => ⟨fun _ => s237 hL hc hl hq hp (fun q e eo => b231_28 (H1 q e eo)) (fun f eo ef' es' => b231_28 (H2 f eo ef' es')), fun h => absurd h n1⟩, fun h => absurd h n0⟩
