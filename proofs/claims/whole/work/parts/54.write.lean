/-! TEXTS: writing -/
def zdln (n : Nat) : Nat → Nat → Nat
  | 0, k => k
  | f + 1, k => if n < 10 ^ k then k else zdln n f (k + 1)
def zds (n : Nat) : Nat → List Int32
  | 0 => []
  | k + 1 => Int32.ofNat (48 + n / 10 ^ k % 10) :: zds n k
def zwn (v : Int32) : List Int32 := (if v.toInt < 0 then [45] else []) ++ zds v.toInt.natAbs (zdln v.toInt.natAbs 9 1)
def zwsg (s : Int32) : List Int32 := if s = 0 then [] else (if s = -1 then [45] else if s = 1 then [] else zwn s) ++ [105]
def zwg (e : zE2) : List Int32 := (if e.1 ≠ 0 ∨ e.2 = 0 then zwn e.1 else []) ++ ((if e.1 ≠ 0 ∧ ¬ e.2 ≤ 0 then [43] else []) ++ zwsg e.2)
def zwt (c k : Nat) : List Int32 := (if c ≠ 1 ∨ k = 0 then [Int32.ofNat (48 + c)] else []) ++ ((if 0 < k then [120] else []) ++ (if 1 < k then [94, Int32.ofNat (48 + k)] else []))
def zwl (F : Nat → Nat) : Nat → Bool → List Int32
  | 0, b => bif b then [48] else []
  | k + 1, b => if F k = 0 then zwl F k b else (bif b then [] else [43]) ++ (zwt (F k) k ++ zwl F k false)
def zwe (r : Nat) (e : zE2) : List Int32 := match r with
  | 0 => zwn e.1
  | 1 => zwg e
  | q => zwl (zcf q (znn e.1)) 8 true
theorem zwe_p {r : Nat} (hr : zprm r) {e : zE2} : zwe r e = zwl (zcf r (znn e.1)) 8 true := by
  rcases hr with rfl | rfl | rfl | rfl <;> rfl
def zWL (u : Nat → Int32) (n : Nat) (L : List Int32) : Prop := n = L.length ∧ ∀ k, k < n → L[k]? = some (u k)
theorem zWL_s {u : Nat → Int32} {n : Nat} {L : List Int32} {c : Int32} (h : zWL u n L) : zWL (va_up u n c) (n + 1) (L ++ [c]) := by
  obtain ⟨h1, h2⟩ := h
  refine ⟨by rw [List.length_append, h1]; rfl, fun k hk => ?_⟩
  by_cases hkn : k = n
  · subst hkn
    rw [va_up_self, h1, List.getElem?_append_right (Nat.le_refl _), Nat.sub_self]; rfl
  · rw [va_up_ne _ _ hkn, List.getElem?_append_left (by omega)]
    exact h2 k (by omega)
theorem zWL_2 {u : Nat → Int32} {n : Nat} {L : List Int32} {a b : Int32} (h : zWL u n L) : zWL (va_up (va_up u n a) (n + 1) b) (n + 1 + 1) (L ++ [a, b]) := by
  have := zWL_s (c := b) (zWL_s (c := a) h)
  rw [List.append_assoc] at this
  exact this
theorem zWL_3 {u : Nat → Int32} {n : Nat} {L : List Int32} {a b c : Int32} (h : zWL u n L) : zWL (va_up (va_up (va_up u n a) (n + 1) b) (n + 1 + 1) c) (n + 1 + 1 + 1) (L ++ [a, b, c]) := by
  have := zWL_s (c := c) (zWL_2 (a := a) (b := b) h)
  rw [List.append_assoc] at this
  exact this
theorem zWL_4 {u : Nat → Int32} {n : Nat} {L : List Int32} {a b c d : Int32} (h : zWL u n L) : zWL (va_up (va_up (va_up (va_up u n a) (n + 1) b) (n + 1 + 1) c) (n + 1 + 1 + 1) d) (n + 1 + 1 + 1 + 1) (L ++ [a, b, c, d]) := by
  have := zWL_s (c := d) (zWL_3 (a := a) (b := b) (c := c) h)
  rw [List.append_assoc] at this
  exact this
theorem zdln_s {n : Nat} (hn : n < 10000000000) : ∀ (f k : Nat), k + f = 10 → 1 ≤ k → (k = 1 ∨ 10 ^ (k - 1) ≤ n) → 1 ≤ zdln n f k ∧ zdln n f k ≤ 10 ∧ n < 10 ^ zdln n f k ∧ (zdln n f k = 1 ∨ 10 ^ (zdln n f k - 1) ≤ n)
  | 0, k, hk, h1, h2 => by
    have : k = 10 := by omega
    subst this
    exact ⟨(show 1 ≤ 10 by decide), (show 10 ≤ 10 by decide), hn, h2⟩
  | f + 1, k, hk, h1, h2 => by
    rw [zdln]
    split
    · rename_i h; exact ⟨h1, by omega, h, h2⟩
    · rename_i h
      exact zdln_s hn f (k + 1) (by omega) (by omega) (Or.inr (by rw [Nat.add_sub_cancel]; omega))
theorem zds_len (n : Nat) : ∀ k, (zds n k).length = k
  | 0 => rfl
  | k + 1 => by rw [zds, List.length_cons, zds_len n k]
theorem zwn_len {v : Int32} (hv : v.toInt.natAbs < 10000000000) : (zwn v).length ≤ 11 := by
  obtain ⟨_, h, _, _⟩ := zdln_s hv 9 1 (by omega) (by omega) (Or.inl rfl)
  unfold zwn
  rw [List.length_append, zds_len]
  split
  · show 1 + _ ≤ 11; omega
  · show 0 + _ ≤ 11; omega
theorem zten {k : Nat} : 10 ^ (k + 1) / 10 = 10 ^ k := by rw [Nat.pow_succ]; exact Nat.mul_div_cancel _ (by decide)
/-- putsNumber -/
theorem s242 {K : zKt} {code rf rs pr pn ef es : Int32} {bad fin : Bool} {len plc rr rc : Nat} {m pa pb pc vf vs tx rd : Nat → Int32} {w : Nat → Int64} {p : Nat × Nat} {Q : zR → zH → Prop} {v : Int32} {n : Nat} {u : Nat → Int32} {L : List Int32} (h1 : -1000000000 ≤ v.toInt) (h2 : v.toInt ≤ 1000000000) (hW : zWL u n L) (hn : n + 11 ≤ 600) (H : ∀ n' u', zWL u' n' (L ++ zwn v) → Q (.inl none) (zh K (code, rf, rs, bad, pr, pn, len, plc, fin, ef, es, rr, rc, n') (m, pa, pb, pc, vf, vs, tx, rd, u') w)) : zT zm_242 [.ref 75, .int v] p (zh K (code, rf, rs, bad, pr, pn, len, plc, fin, ef, es, rr, rc, n) (m, pa, pb, pc, vf, vs, tx, rd, u) w) Q := by
  generalize hN : v.toInt.natAbs = N at *
  have hN9 : N ≤ 1000000000 := by omega
  have l39 : ∀ (k n : Nat) (u : Nat → Int32) (L' : List Int32), k ≤ 10 → n + k ≤ 600 → zWL u n L' → (∀ n' u', zWL u' n' (L' ++ zds N k) → Q (.inl none) (zh K (code, rf, rs, bad, pr, pn, len, plc, fin, ef, es, rr, rc, n') (m, pa, pb, pc, vf, vs, tx, rd, u') w)) → zW zm_242 39 [some (.ref 75), none, some (.int (Int32.ofNat N)), some (.int (Int32.ofNat (10 ^ k / 10)))] [] p (zh K (code, rf, rs, bad, pr, pn, len, plc, fin, ef, es, rr, rc, n) (m, pa, pb, pc, vf, vs, tx, rd, u) w) Q := by
    intro k
    induction k with
    | zero =>
      intro n u L' _ _ hW' H'
      rw [show zds N 0 = [] from rfl, List.append_nil] at H'
      exact b242_39 ⟨by decide, fun _ => H' n u hW', fun h => absurd h (by decide)⟩
    | succ k ih =>
      intro n u L' hk hn' hW' H'
      have hp : 10 ^ k ≤ 1000000000 := Nat.le_trans (Nat.pow_le_pow_right (by omega) (show k ≤ 9 by omega)) (by decide)
      have hp0 : 0 < 10 ^ k := Nat.pow_pos (by decide)
      have hdv : N / 10 ^ k ≤ N := Nat.div_le_self _ _
      rw [zten]
      refine b242_39 ⟨by omega, fun h => (by omega), fun _ => ⟨hp0, by omega, by omega, by omega, ?_⟩⟩
      refine ih (n + 1) _ (L' ++ [Int32.ofNat (48 + N / 10 ^ k % 10)]) (by omega) (by omega) ?_ (fun n' u' hu => H' n' u' ?_)
      · have := zWL_s (c := Int32.ofNat (48 + N / 10 ^ k % 10)) hW'
        rw [show (48 : Int32) + Int32.ofNat (N / 10 ^ k % 10) = Int32.ofNat (48 + N / 10 ^ k % 10) from zN_a rfl rfl]
        exact this
      · rw [List.append_assoc] at hu; exact hu
  have l23 : ∀ (f k n : Nat) (u : Nat → Int32) (L' : List Int32), k + f = 9 → n + 10 ≤ 600 → zWL u n L' → (∀ n' u', zWL u' n' (L' ++ zds N (zdln N f (k + 1))) → Q (.inl none) (zh K (code, rf, rs, bad, pr, pn, len, plc, fin, ef, es, rr, rc, n') (m, pa, pb, pc, vf, vs, tx, rd, u') w)) → zW zm_242 23 [some (.ref 75), none, some (.int (Int32.ofNat N)), some (.int (Int32.ofNat (10 ^ k)))] [] p (zh K (code, rf, rs, bad, pr, pn, len, plc, fin, ef, es, rr, rc, n) (m, pa, pb, pc, vf, vs, tx, rd, u) w) Q := by
    intro f
    induction f with
    | zero =>
      intro k n u L' hk hn' hW' H'
      have : k = 9 := by omega
      subst this
      have h9 : 10 ^ 9 = 1000000000 := by decide
      refine b242_23 ⟨by omega, by omega, by omega, fun _ => ?_, fun h => (by omega)⟩
      have := l39 10 n u L' (by omega) (by omega) hW' H'
      rw [show 10 ^ 10 / 10 = 10 ^ 9 by decide] at this
      exact this
    | succ f ih =>
      intro k n u L' hk hn' hW' H'
      have hp : 10 ^ k ≤ 1000000000 := Nat.le_trans (Nat.pow_le_pow_right (by omega) (show k ≤ 9 by omega)) (by decide)
      have hp1 : 10 ^ (k + 1) = 10 ^ k * 10 := Nat.pow_succ 10 k
      rw [zdln] at H'
      refine b242_23 ⟨by omega, by omega, by omega, fun hlt => ?_, fun hge => ?_⟩
      · rw [if_pos (by omega)] at H'
        have := l39 (k + 1) n u L' (by omega) (by omega) hW' H'
        rw [zten] at this
        exact this
      · rw [if_neg (by omega)] at H'
        have := ih (k + 1) n u L' (by omega) hn' hW' H'
        rw [hp1] at this
        exact this
  have ez : ∀ x : Int32, (0 ≤ x ↔ 0 ≤ x.toInt) := fun x => by rw [Int32.le_iff_toInt_le, Int32.toInt_zero]
  unfold zwn at H
  rw [hN] at H
  refine b242 ⟨fun h0 k hk ek => ⟨fun _ => ?_, fun h => (by omega)⟩, fun h0 => ⟨by omega, fun h => absurd h h0, fun _ => ⟨N, ?_, ?_⟩⟩⟩
  · have h0' := (ez v).mp h0
    rw [if_neg (by omega), List.nil_append] at H
    have : k = N := by rw [ek, zN_i hk] at hN; omega
    subst this
    exact l23 9 0 n u L (by omega) (by omega) hW H
  · have h0' : ¬ 0 ≤ v.toInt := fun h => h0 ((ez v).mpr h)
    apply Int32.toInt_inj.mp
    rw [zIn (by omega), zN_i (by omega)]; omega
  · have h0' : ¬ 0 ≤ v.toInt := fun h => h0 ((ez v).mpr h)
    rw [if_pos (by omega)] at H
    refine l23 9 0 (n + 1) _ (L ++ [45]) (by omega) (by omega) (zWL_s hW) (fun n' u' hu => H n' u' ?_)
    rw [List.append_assoc] at hu
    exact hu
/-- putsGaussian -/
theorem s243 {K : zKt} {code rf rs pr pn ef es : Int32} {bad fin : Bool} {len plc rr rc : Nat} {m pa pb pc vf vs tx rd : Nat → Int32} {w : Nat → Int64} {p : Nat × Nat} {Q : zR → zH → Prop} {x1 x2 : Int32} {n : Nat} {u : Nat → Int32} {L : List Int32} (he : zok 1 (x1, x2)) (hW : zWL u n L) (hn : n + 30 ≤ 600) (H : ∀ n' u', zWL u' n' (L ++ zwg (x1, x2)) → Q (.inl none) (zh K (code, rf, rs, bad, pr, pn, len, plc, fin, ef, es, rr, rc, n') (m, pa, pb, pc, vf, vs, tx, rd, u') w)) : zT zm_243 [.ref 75, .int x1, .int x2] p (zh K (code, rf, rs, bad, pr, pn, len, plc, fin, ef, es, rr, rc, n) (m, pa, pb, pc, vf, vs, tx, rd, u) w) Q := by
  obtain ⟨b1, b2, b3, b4⟩ := he
  have b1 : -30000 ≤ x1.toInt := b1
  have b2 : x1.toInt ≤ 30000 := b2
  have b3 : -30000 ≤ x2.toInt := b3
  have b4 : x2.toInt ≤ 30000 := b4
  have tl : ∀ (om : Nat) (ou : Nat → Int32) (L' : List Int32), zWL ou om L' → om + 14 ≤ 600 → (∀ n' u', zWL u' n' (L' ++ zwsg x2) → Q (.inl none) (zh K (code, rf, rs, bad, pr, pn, len, plc, fin, ef, es, rr, rc, n') (m, pa, pb, pc, vf, vs, tx, rd, u') w)) → ((¬ x2 = (-1 : Int32) → ((x2 = (0 : Int32) → ((x2 = (0 : Int32) → Q (.inl none) (zh K (code, rf, rs, bad, pr, pn, len, plc, fin, ef, es, rr, rc, om) (m, pa, pb, pc, vf, vs, tx, rd, ou) w)) ∧ (¬ x2 = (0 : Int32) → (om < 600 ∧ Q (.inl none) (zh K (code, rf, rs, bad, pr, pn, len, plc, fin, ef, es, rr, rc, (om + 1)) (m, pa, pb, pc, vf, vs, tx, rd, (va_up ou om (105 : Int32))) w))))) ∧ (¬ x2 = (0 : Int32) → ((x2 = (1 : Int32) → ((x2 = (0 : Int32) → Q (.inl none) (zh K (code, rf, rs, bad, pr, pn, len, plc, fin, ef, es, rr, rc, om) (m, pa, pb, pc, vf, vs, tx, rd, ou) w)) ∧ (¬ x2 = (0 : Int32) → (om < 600 ∧ Q (.inl none) (zh K (code, rf, rs, bad, pr, pn, len, plc, fin, ef, es, rr, rc, (om + 1)) (m, pa, pb, pc, vf, vs, tx, rd, (va_up ou om (105 : Int32))) w))))) ∧ (¬ x2 = (1 : Int32) → zT zm_242 [.ref 75, .int x2] p (zh K (code, rf, rs, bad, pr, pn, len, plc, fin, ef, es, rr, rc, om) (m, pa, pb, pc, vf, vs, tx, rd, ou) w) (zK zm_243 55 [some (.ref 75), none, some (.int x2)] [] p Q)))))) ∧ (x2 = (-1 : Int32) → (om < 600 ∧ ((x2 = (0 : Int32) → Q (.inl none) (zh K (code, rf, rs, bad, pr, pn, len, plc, fin, ef, es, rr, rc, (om + 1)) (m, pa, pb, pc, vf, vs, tx, rd, (va_up ou om (45 : Int32))) w)) ∧ (¬ x2 = (0 : Int32) → ((om + 1) < 600 ∧ Q (.inl none) (zh K (code, rf, rs, bad, pr, pn, len, plc, fin, ef, es, rr, rc, ((om + 1) + 1)) (m, pa, pb, pc, vf, vs, tx, rd, (va_up (va_up ou om (45 : Int32)) (om + 1) (105 : Int32))) w))))))) := by
    intro om ou L' hW' hn' H'
    unfold zwsg at H'
    refine ⟨fun nm1 => ⟨fun h0 => ⟨fun _ => ?_, fun h => absurd h0 h⟩, fun n0 => ⟨fun h1 => ⟨fun h => absurd h n0, fun _ => ⟨by omega, ?_⟩⟩, fun n1 => ?_⟩⟩, fun m1 => ⟨by omega, fun h => ?_, fun n0 => ⟨by omega, ?_⟩⟩⟩
    · rw [if_pos h0, List.append_nil] at H'
      exact H' om ou hW'
    · rw [if_neg n0, if_neg nm1, if_pos h1, List.nil_append] at H'
      exact H' _ _ (zWL_s hW')
    · rw [if_neg n0, if_neg nm1, if_neg n1] at H'
      refine s242 (by omega) (by omega) hW' (by omega) (fun n2 u2 hu => b243_55 ⟨fun h => absurd h n0, fun _ => ⟨?_, ?_⟩⟩)
      · have l1 := zwn_len (v := x2) (by omega)
        have := hu.1
        rw [List.length_append] at this
        have := hW'.1
        omega
      · have := zWL_s (c := 105) hu
        rw [List.append_assoc] at this
        exact H' _ _ this
    · rw [m1] at h; exact absurd h (by decide)
    · rw [if_neg n0, if_pos m1] at H'
      exact H' _ _ (zWL_2 hW')
  have B : ∀ (om : Nat) (ou : Nat → Int32) (L' : List Int32), zWL ou om L' → om + 15 ≤ 600 → (∀ n' u', zWL u' n' (L' ++ ((if x1 ≠ 0 ∧ ¬ x2 ≤ 0 then [43] else []) ++ zwsg x2)) → Q (.inl none) (zh K (code, rf, rs, bad, pr, pn, len, plc, fin, ef, es, rr, rc, n') (m, pa, pb, pc, vf, vs, tx, rd, u') w)) → zW zm_243 13 [some (.ref 75), some (.int x1), some (.int x2)] [] p (zh K (code, rf, rs, bad, pr, pn, len, plc, fin, ef, es, rr, rc, om) (m, pa, pb, pc, vf, vs, tx, rd, ou) w) Q := by
    intro om ou L' hW' hn' H'
    refine b243_13 ⟨fun h0 => ?_, fun n0 => ⟨fun hle => ?_, fun hgt => ⟨by omega, ?_⟩⟩⟩
    · rw [if_neg (fun g => g.1 h0), List.nil_append] at H'
      exact tl om ou L' hW' (by omega) H'
    · rw [if_neg (fun g => g.2 hle), List.nil_append] at H'
      exact tl om ou L' hW' (by omega) H'
    · rw [if_pos ⟨n0, hgt⟩] at H'
      refine tl (om + 1) _ (L' ++ [43]) (zWL_s hW') (by omega) (fun n2 u2 hu => H' n2 u2 ?_)
      rw [List.append_assoc] at hu
      exact hu
  have num : (x1 ≠ 0 ∨ x2 = 0) → zT zm_242 [.ref 75, .int x1] p (zh K (code, rf, rs, bad, pr, pn, len, plc, fin, ef, es, rr, rc, n) (m, pa, pb, pc, vf, vs, tx, rd, u) w) (zK zm_243 13 [some (.ref 75), some (.int x1), some (.int x2)] [] p Q) := by
    intro hc
    unfold zwg at H
    have H : ∀ n' u', zWL u' n' (L ++ ((if x1 ≠ 0 ∨ x2 = 0 then zwn x1 else []) ++ ((if x1 ≠ 0 ∧ ¬ x2 ≤ 0 then [43] else []) ++ zwsg x2))) → Q (.inl none) (zh K (code, rf, rs, bad, pr, pn, len, plc, fin, ef, es, rr, rc, n') (m, pa, pb, pc, vf, vs, tx, rd, u') w) := H
    rw [if_pos hc] at H
    refine s242 (by omega) (by omega) hW (by omega) (fun n2 u2 hu => B n2 u2 _ hu ?_ (fun n3 u3 h3 => H n3 u3 (by rw [List.append_assoc] at h3; exact h3)))
    have l1 := zwn_len (v := x1) (by omega)
    have := hu.1
    rw [List.length_append] at this
    have := hW.1
    omega
  refine b243 ⟨fun n0 => num (Or.inl n0), fun h0 => ⟨fun ns => ⟨fun _ => ?_, fun h => absurd h0 h⟩, fun hs => num (Or.inr hs)⟩⟩
  unfold zwg at H
  have H : ∀ n' u', zWL u' n' (L ++ ((if x1 ≠ 0 ∨ x2 = 0 then zwn x1 else []) ++ ((if x1 ≠ 0 ∧ ¬ x2 ≤ 0 then [43] else []) ++ zwsg x2))) → Q (.inl none) (zh K (code, rf, rs, bad, pr, pn, len, plc, fin, ef, es, rr, rc, n') (m, pa, pb, pc, vf, vs, tx, rd, u') w) := H
  rw [if_neg (fun g => g.elim (fun g => g h0) ns), if_neg (fun g => g.1 h0), List.nil_append, List.nil_append] at H
  exact tl n u L hW (by omega) H
theorem zwt_1 {c : Nat} (hc : c ≠ 1 ∨ 0 = 0) : zwt c 0 = [Int32.ofNat (48 + c)] := by unfold zwt; rw [if_pos hc]; rfl
theorem zwt_2 {c : Nat} (hc : c ≠ 1) : zwt c 1 = [Int32.ofNat (48 + c), 120] := by unfold zwt; rw [if_pos (Or.inl hc)]; rfl
theorem zwt_4 {c k : Nat} (hc : c ≠ 1) (hk : 1 < k) : zwt c k = [Int32.ofNat (48 + c), 120, 94, Int32.ofNat (48 + k)] := by unfold zwt; rw [if_pos (Or.inl hc), if_pos (by omega), if_pos hk]; rfl
theorem zwt_o {c : Nat} (hc : c = 1) : zwt c 1 = [120] := by unfold zwt; rw [if_neg (by omega)]; rfl
theorem zwt_3 {c k : Nat} (hc : c = 1) (hk : 1 < k) : zwt c k = [120, 94, Int32.ofNat (48 + k)] := by unfold zwt; rw [if_neg (by omega), if_pos (by omega), if_pos hk]; rfl
/-- putsPolynomial -/
theorem s244 {K : zKt} {code rf rs pr pn ef es : Int32} {bad fin : Bool} {len plc rr rc : Nat} {m pb pc vf vs tx rd : Nat → Int32} {w : Nat → Int64} {p : Nat × Nat} {Q : zR → zH → Prop} {r v n : Nat} {u pa : Nat → Int32} {L : List Int32} (hr : zprm r) (hv : v < r ^ 8) (hW : zWL u n L) (hn : n + 34 ≤ 561) (H : ∀ n' u' pa', zWL u' n' (L ++ zwl (zcf r v) 8 true) → Q (.inl none) (zh K (code, rf, rs, bad, pr, pn, len, plc, fin, ef, es, rr, rc, n') (m, pa', pb, pc, vf, vs, tx, rd, u') w)) : zT zm_244 [.ref 75, .int (Int32.ofNat r), .int (Int32.ofNat v)] p (zh K (code, rf, rs, bad, pr, pn, len, plc, fin, ef, es, rr, rc, n) (m, pa, pb, pc, vf, vs, tx, rd, u) w) Q := by
  have hr7 := zprm_lt hr
  have hpw := zpw_lt hr
  refine b244 (s159a (by omega) (by omega) (by omega) (fun pa' hpa => b244_9 ?_))
  have hlt := zcf_lt (show 0 < r by omega) v
  have H := fun n' u' => H n' u' pa'
  generalize zcf r v = F at *
  have lp : ∀ (k om : Nat) (b : Bool) (ou : Nat → Int32) (L' : List Int32), k ≤ 8 → zWL ou om L' → om + 5 * k + 1 ≤ 600 → (∀ n' u', zWL u' n' (L' ++ zwl F k b) → Q (.inl none) (zh K (code, rf, rs, bad, pr, pn, len, plc, fin, ef, es, rr, rc, n') (m, pa', pb, pc, vf, vs, tx, rd, u') w)) → zW zm_244 15 [some (.ref 75), none, none, some (.int (Int32.ofNat (if b = true then 1 else 0))), some (.int (zpre k))] [] p (zh K (code, rf, rs, bad, pr, pn, len, plc, fin, ef, es, rr, rc, om) (m, pa', pb, pc, vf, vs, tx, rd, ou) w) Q := by
    intro k
    induction k with
    | zero =>
      intro om b ou L' _ hW' hn' H'
      refine b244_15 ⟨fun _ => ?_, fun h => absurd (by decide) h⟩
      cases b with
      | true => exact ⟨by decide, fun h => absurd h (by decide), fun _ => ⟨by omega, H' _ _ (zWL_s hW')⟩⟩
      | false =>
        rw [show zwl F 0 false = [] from rfl, List.append_nil] at H'
        exact ⟨by decide, fun _ => H' _ _ hW', fun h => absurd rfl h⟩
    | succ k ih =>
      intro om b ou L' hk hW' hn' H'
      rw [zpre_s]
      refine b244_15 ⟨fun h => absurd h (zN_ge0 (by omega)), fun _ k_x4 hk4 ek => ?_⟩
      have : k_x4 = k := (zN_inj (by omega) hk4 ek).symm
      subst this
      have e1 := hpa k_x4 (by omega)
      have l7 := hlt k_x4
      have tm : ∀ (om : Nat) (ou : Nat → Int32) (L' : List Int32), ¬ F k_x4 = 0 → zWL ou om L' → om + 5 * k_x4 + 5 ≤ 600 → (∀ n' u', zWL u' n' (L' ++ (zwt (F k_x4) k_x4 ++ zwl F k_x4 false)) → Q (.inl none) (zh K (code, rf, rs, bad, pr, pn, len, plc, fin, ef, es, rr, rc, n') (m, pa', pb, pc, vf, vs, tx, rd, u') w)) → ((¬ (pa' k_x4) = (1 : Int32) → (om < 600 ∧ ((k_x4 ≤ 0 → ((k_x4 ≤ 1 → zW zm_244 15 [some (.ref 75), none, none, some (.int (Int32.ofNat 0)), some (.int ((Int32.ofNat k_x4) + Int32.ofInt (-1)))] [] p (zh K (code, rf, rs, bad, pr, pn, len, plc, fin, ef, es, rr, rc, (om + 1)) (m, pa', pb, pc, vf, vs, tx, rd, (va_up ou om ((48 : Int32) + (pa' k_x4)))) w) Q) ∧ (1 < k_x4 → ((om + 1) < 600 ∧ (((om + 1) + 1) < 600 ∧ zW zm_244 15 [some (.ref 75), none, none, some (.int (Int32.ofNat 0)), some (.int ((Int32.ofNat k_x4) + Int32.ofInt (-1)))] [] p (zh K (code, rf, rs, bad, pr, pn, len, plc, fin, ef, es, rr, rc, (((om + 1) + 1) + 1)) (m, pa', pb, pc, vf, vs, tx, rd, (va_up (va_up (va_up ou om ((48 : Int32) + (pa' k_x4))) (om + 1) (94 : Int32)) ((om + 1) + 1) ((48 : Int32) + (Int32.ofNat k_x4)))) w) Q))))) ∧ (0 < k_x4 → ((om + 1) < 600 ∧ ((k_x4 ≤ 1 → zW zm_244 15 [some (.ref 75), none, none, some (.int (Int32.ofNat 0)), some (.int ((Int32.ofNat k_x4) + Int32.ofInt (-1)))] [] p (zh K (code, rf, rs, bad, pr, pn, len, plc, fin, ef, es, rr, rc, ((om + 1) + 1)) (m, pa', pb, pc, vf, vs, tx, rd, (va_up (va_up ou om ((48 : Int32) + (pa' k_x4))) (om + 1) (120 : Int32))) w) Q) ∧ (1 < k_x4 → (((om + 1) + 1) < 600 ∧ ((((om + 1) + 1) + 1) < 600 ∧ zW zm_244 15 [some (.ref 75), none, none, some (.int (Int32.ofNat 0)), some (.int ((Int32.ofNat k_x4) + Int32.ofInt (-1)))] [] p (zh K (code, rf, rs, bad, pr, pn, len, plc, fin, ef, es, rr, rc, ((((om + 1) + 1) + 1) + 1)) (m, pa', pb, pc, vf, vs, tx, rd, (va_up (va_up (va_up (va_up ou om ((48 : Int32) + (pa' k_x4))) (om + 1) (120 : Int32)) ((om + 1) + 1) (94 : Int32)) (((om + 1) + 1) + 1) ((48 : Int32) + (Int32.ofNat k_x4)))) w) Q))))))))) ∧ ((pa' k_x4) = (1 : Int32) → ((¬ k_x4 = 0 → ((k_x4 ≤ 0 → ((k_x4 ≤ 1 → zW zm_244 15 [some (.ref 75), none, none, some (.int (Int32.ofNat 0)), some (.int ((Int32.ofNat k_x4) + Int32.ofInt (-1)))] [] p (zh K (code, rf, rs, bad, pr, pn, len, plc, fin, ef, es, rr, rc, om) (m, pa', pb, pc, vf, vs, tx, rd, ou) w) Q) ∧ (1 < k_x4 → (om < 600 ∧ ((om + 1) < 600 ∧ zW zm_244 15 [some (.ref 75), none, none, some (.int (Int32.ofNat 0)), some (.int ((Int32.ofNat k_x4) + Int32.ofInt (-1)))] [] p (zh K (code, rf, rs, bad, pr, pn, len, plc, fin, ef, es, rr, rc, ((om + 1) + 1)) (m, pa', pb, pc, vf, vs, tx, rd, (va_up (va_up ou om (94 : Int32)) (om + 1) ((48 : Int32) + (Int32.ofNat k_x4)))) w) Q))))) ∧ (0 < k_x4 → (om < 600 ∧ ((k_x4 ≤ 1 → zW zm_244 15 [some (.ref 75), none, none, some (.int (Int32.ofNat 0)), some (.int ((Int32.ofNat k_x4) + Int32.ofInt (-1)))] [] p (zh K (code, rf, rs, bad, pr, pn, len, plc, fin, ef, es, rr, rc, (om + 1)) (m, pa', pb, pc, vf, vs, tx, rd, (va_up ou om (120 : Int32))) w) Q) ∧ (1 < k_x4 → ((om + 1) < 600 ∧ (((om + 1) + 1) < 600 ∧ zW zm_244 15 [some (.ref 75), none, none, some (.int (Int32.ofNat 0)), some (.int ((Int32.ofNat k_x4) + Int32.ofInt (-1)))] [] p (zh K (code, rf, rs, bad, pr, pn, len, plc, fin, ef, es, rr, rc, (((om + 1) + 1) + 1)) (m, pa', pb, pc, vf, vs, tx, rd, (va_up (va_up (va_up ou om (120 : Int32)) (om + 1) (94 : Int32)) ((om + 1) + 1) ((48 : Int32) + (Int32.ofNat k_x4)))) w) Q)))))))) ∧ (k_x4 = 0 → (om < 600 ∧ ((k_x4 ≤ 0 → ((k_x4 ≤ 1 → zW zm_244 15 [some (.ref 75), none, none, some (.int (Int32.ofNat 0)), some (.int ((Int32.ofNat k_x4) + Int32.ofInt (-1)))] [] p (zh K (code, rf, rs, bad, pr, pn, len, plc, fin, ef, es, rr, rc, (om + 1)) (m, pa', pb, pc, vf, vs, tx, rd, (va_up ou om ((48 : Int32) + (pa' k_x4)))) w) Q) ∧ (1 < k_x4 → ((om + 1) < 600 ∧ (((om + 1) + 1) < 600 ∧ zW zm_244 15 [some (.ref 75), none, none, some (.int (Int32.ofNat 0)), some (.int ((Int32.ofNat k_x4) + Int32.ofInt (-1)))] [] p (zh K (code, rf, rs, bad, pr, pn, len, plc, fin, ef, es, rr, rc, (((om + 1) + 1) + 1)) (m, pa', pb, pc, vf, vs, tx, rd, (va_up (va_up (va_up ou om ((48 : Int32) + (pa' k_x4))) (om + 1) (94 : Int32)) ((om + 1) + 1) ((48 : Int32) + (Int32.ofNat k_x4)))) w) Q))))) ∧ (0 < k_x4 → ((om + 1) < 600 ∧ ((k_x4 ≤ 1 → zW zm_244 15 [some (.ref 75), none, none, some (.int (Int32.ofNat 0)), some (.int ((Int32.ofNat k_x4) + Int32.ofInt (-1)))] [] p (zh K (code, rf, rs, bad, pr, pn, len, plc, fin, ef, es, rr, rc, ((om + 1) + 1)) (m, pa', pb, pc, vf, vs, tx, rd, (va_up (va_up ou om ((48 : Int32) + (pa' k_x4))) (om + 1) (120 : Int32))) w) Q) ∧ (1 < k_x4 → (((om + 1) + 1) < 600 ∧ ((((om + 1) + 1) + 1) < 600 ∧ zW zm_244 15 [some (.ref 75), none, none, some (.int (Int32.ofNat 0)), some (.int ((Int32.ofNat k_x4) + Int32.ofInt (-1)))] [] p (zh K (code, rf, rs, bad, pr, pn, len, plc, fin, ef, es, rr, rc, ((((om + 1) + 1) + 1) + 1)) (m, pa', pb, pc, vf, vs, tx, rd, (va_up (va_up (va_up (va_up ou om ((48 : Int32) + (pa' k_x4))) (om + 1) (120 : Int32)) ((om + 1) + 1) (94 : Int32)) (((om + 1) + 1) + 1) ((48 : Int32) + (Int32.ofNat k_x4)))) w) Q)))))))))))) := by
        intro om ou L' hF0 hW' hn' H'
        have e48 : (48 : Int32) + Int32.ofNat (F k_x4) = Int32.ofNat (48 + F k_x4) := zN_a rfl rfl
        have e48k : (48 : Int32) + Int32.ofNat k_x4 = Int32.ofNat (48 + k_x4) := zN_a rfl rfl
        have e1' : Int32.ofNat (F k_x4) = 1 ↔ F k_x4 = 1 := zN_e (b := 1) (by omega) (by omega)
        rw [e1, e48, e48k, e1']
        have w : ∀ (om : Nat) (ou : Nat → Int32), zWL ou om (L' ++ zwt (F k_x4) k_x4) → om + 5 * k_x4 + 1 ≤ 600 → zW zm_244 15 [some (.ref 75), none, none, some (.int (Int32.ofNat 0)), some (.int ((Int32.ofNat k_x4) + Int32.ofInt (-1)))] [] p (zh K (code, rf, rs, bad, pr, pn, len, plc, fin, ef, es, rr, rc, om) (m, pa', pb, pc, vf, vs, tx, rd, ou) w) Q := by
          intro om ou hu ho
          exact ih om false ou _ (by omega) hu ho (fun n' u' h => H' n' u' (by rw [List.append_assoc] at h; exact h))
        refine ⟨fun nc => ⟨by omega, fun hk0 => ⟨fun _ => ?_, fun h => (by omega)⟩, fun hk0 => ⟨by omega, fun hk1 => ?_, fun hk1 => ⟨by omega, by omega, ?_⟩⟩⟩, fun hc => ⟨fun nk => ⟨fun h => (by omega), fun hk0 => ⟨by omega, fun hk1 => ?_, fun hk1 => ⟨by omega, by omega, ?_⟩⟩⟩, fun hk => ⟨by omega, fun _ => ⟨fun _ => ?_, fun h => (by omega)⟩, fun h => (by omega)⟩⟩⟩
        · have hk : k_x4 = 0 := by omega
          refine w _ _ ?_ (by omega)
          have e := zwt_1 (c := F k_x4) (Or.inr rfl)
          rw [show zwt (F k_x4) k_x4 = zwt (F k_x4) 0 by rw [hk]] 
          rw [e]; exact zWL_s hW'
        · have hk : k_x4 = 1 := by omega
          refine w _ _ ?_ (by omega)
          have e := zwt_2 nc
          rw [show zwt (F k_x4) k_x4 = zwt (F k_x4) 1 from congrArg (zwt (F k_x4)) hk, e]; exact zWL_2 hW'
        · refine w _ _ ?_ (by omega)
          rw [zwt_4 nc hk1]; exact zWL_4 hW'
        · have hk : k_x4 = 1 := by omega
          refine w _ _ ?_ (by omega)
          have e := zwt_o hc
          rw [show zwt (F k_x4) k_x4 = zwt (F k_x4) 1 from congrArg (zwt (F k_x4)) hk, e]; exact zWL_s hW'
        · refine w _ _ ?_ (by omega)
          rw [zwt_3 hc hk1]; exact zWL_3 hW'
        · refine w _ _ ?_ (by omega)
          have e := zwt_1 (c := F k_x4) (Or.inr rfl)
          rw [show zwt (F k_x4) k_x4 = zwt (F k_x4) 0 from congrArg (zwt (F k_x4)) hk, e]; exact zWL_s hW'
      rw [zwl] at H'
      have z0 : pa' k_x4 = 0 ↔ F k_x4 = 0 := by rw [e1]; exact zN_0 (by omega)
      refine ⟨by omega, fun hz => ?_, fun hnz => ?_⟩
      · rw [if_pos (z0.mp hz)] at H'
        exact ih om b ou L' (by omega) hW' (by omega) H'
      · have hF0 : ¬ F k_x4 = 0 := fun h => hnz (z0.mpr h)
        rw [if_neg hF0] at H'
        cases b with
        | true =>
          rw [cond_true, List.nil_append] at H'
          exact ⟨by decide, fun _ => tm om ou L' hF0 hW' (by omega) H', fun h => absurd h (by decide)⟩
        | false =>
          rw [cond_false] at H'
          refine ⟨by decide, fun h => absurd rfl h, fun _ => ⟨by omega, tm (om + 1) _ (L' ++ [43]) hF0 (zWL_s hW') (by omega) (fun n' u' h => H' n' u' ?_)⟩⟩
          rw [List.append_assoc] at h; exact h
  exact lp 8 n true u L (by omega) hW (by omega) H
