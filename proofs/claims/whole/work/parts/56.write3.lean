/-! TEXTS: matrices are written; the calls on texts; what both sides keep -/
def zwR (r : Nat) (C : zVe) : Nat → List Int32
  | 0 => []
  | c + 1 => zwR r C c ++ ((if c = 0 then [] else [44]) ++ zwe r (C c))
def zwM (r d : Nat) (E : zMe) : Nat → List Int32
  | 0 => []
  | i + 1 => zwM r d E i ++ ((if i = 0 then [91] else [59]) ++ zwR r (E i) d)
def zwX (r h d : Nat) (E : zMe) : List Int32 := zwM r d E h ++ [93]
theorem zwR_len {r : Nat} (hr : zrg r) {C : zVe} (hC : ∀ c, zok r (C c)) : ∀ c, (zwR r C c).length ≤ c * 35 ∧ (0 < c → (zwR r C c).length + 1 ≤ c * 35)
  | 0 => ⟨Nat.le_refl 0, fun h => absurd h (Nat.lt_irrefl 0)⟩
  | c + 1 => by
    obtain ⟨i1, i2⟩ := zwR_len hr hC c
    have h34 := zwe_len hr (hC c)
    rw [zwR, List.length_append, List.length_append]
    by_cases h0 : c = 0
    · rw [if_pos h0]
      have : ([] : List Int32).length = 0 := rfl
      subst h0
      exact ⟨by omega, fun _ => by omega⟩
    · rw [if_neg h0]
      have : [(44 : Int32)].length = 1 := rfl
      have := i2 (by omega)
      exact ⟨by omega, fun _ => by omega⟩
theorem zwM_len {r d : Nat} (hr : zrg r) (hd : 1 ≤ d) {E : zMe} (hE : ∀ a c, zok r (E a c)) : ∀ i, (zwM r d E i).length ≤ i * (d * 35)
  | 0 => by rw [Nat.zero_mul]; exact Nat.le_refl 0
  | i + 1 => by
    have ih := zwM_len hr hd hE i
    have h := (zwR_len hr (hE i) d).2 (by omega)
    rw [zwM, List.length_append, List.length_append, Nat.succ_mul]
    have : (if i = 0 then [(91 : Int32)] else [59]).length = 1 := by split <;> rfl
    omega
theorem zwX_len {r h d : Nat} (hsh : zsh r h d) {E : zMe} (hE : ∀ a c, zok r (E a c)) : (zwX r h d E).length ≤ 561 := by
  obtain ⟨hr, h1, h2, h3, h4⟩ := hsh
  have := zwM_len hr h3 hE h
  have h5 : h * (d * 35) ≤ 4 * (4 * 35) := Nat.mul_le_mul h2 (Nat.mul_le_mul_right 35 h4)
  unfold zwX
  rw [List.length_append]
  have : [(93 : Int32)].length = 1 := rfl
  omega
/-- where a row's text stands -/
theorem zwM_b {r h d i c : Nat} (hsh : zsh r h d) {E : zMe} (hE : ∀ a c, zok r (E a c)) (hi : i < h) (hc : c ≤ d) : (zwM r d E i ++ ((if i = 0 then [91] else [59]) ++ zwR r (E i) c)).length + (d - c) * 35 + 1 ≤ 561 + (if c = 0 then 1 else 0) := by
  obtain ⟨hr, h1, h2, h3, h4⟩ := hsh
  have a1 := zwM_len hr h3 hE i
  have a2 := zwR_len hr (hE i) c
  have h5 : (i + 1) * (d * 35) ≤ 4 * (4 * 35) := Nat.mul_le_mul (by omega) (Nat.mul_le_mul_right 35 h4)
  rw [Nat.succ_mul] at h5
  have h6 : (d - c) * 35 + c * 35 = d * 35 := by rw [← Nat.add_mul]; congr 1; omega
  rw [List.length_append, List.length_append]
  have e1 : (if i = 0 then [(91 : Int32)] else [59]).length = 1 := by split <;> rfl
  rw [e1]
  by_cases hc0 : c = 0
  · rw [if_pos hc0]; omega
  · rw [if_neg hc0]
    have := a2.2 (by omega); omega
abbrev zXt : Type := (Nat → Int32) × Nat × List Int32
def zXw (X : zXt) : Prop := X.2.1 ≤ 120 ∧ X.2.2.length ≤ 561
def zRX (J : zJt) (B : zBt) (X : zXt) : Prop := J.1 = X.2.1 ∧ (∀ k, k < X.2.1 → B.1 k = X.1 k) ∧ zWL B.2.2 J.2.2.2.2.2.2.2 X.2.2
def zCY (Y : zYt) (X : zXt) : Prop := Y.1.2 = X.2.1 ∧ (∀ k, k < X.2.1 → Y.1.1 k = X.1 k) ∧ zWL Y.2.1.1 Y.2.1.2 X.2.2
/-- the reference's part and the class's part -/
def zRA (S : zSs) (X : zXt) (code : Int32) (I : zIt) (A : zAt) : Prop := ∃ rf rs bad pr pn J m pa pb pc vf vs B, I = (code, rf, rs, bad, pr, pn, J) ∧ A = (m, pa, pb, pc, vf, vs, B) ∧ zRS m S ∧ zRX J B X
def zCA (S : zSs) (X : zXt) (K : zKt) : Prop := ∃ P T Y, K = (P, T, Y) ∧ zCS T S ∧ zCY Y X
theorem zch_e {tx t : Nat → Int32} {len l : Nat} (h1 : len = l) (h2 : ∀ k, k < l → tx k = t k) : ∀ p, zch tx len p = zch t l p := by
  intro p
  unfold zch
  rw [h1]
  split
  · exact h2 p (by assumption)
  · rfl
theorem zch_L {t : Nat → Int32} {l : Nat} (h : l ≤ 120) : zLe (zch t l) := fun p hp => by unfold zch; rw [if_neg (by omega)]
def zt_type (X : zXt) (a0 : Int32) : (Int32 ⊕ Nat) × zXt := if zin a0.toInt64 0 255 = false then (.inr 2, X) else if X.2.1 = 120 then (.inr 1, X) else (.inl (Int32.ofNat (X.2.1 + 1)), (va_up X.1 X.2.1 a0, X.2.1 + 1, X.2.2))
def zt_fault (X : zXt) (a0 : Int32) : Int32 ⊕ Nat := if zisr a0 = false then .inr 2 else match zpa (zch X.1 X.2.1) X.2.1 (znn a0) with
  | .inl _ => .inl (-1)
  | .inr f => .inl (Int32.ofNat f)
def zt_parse (S : zSs) (X : zXt) (a0 a1 : Int32) : (Int32 ⊕ Nat) × zSs × zXt := if zslot a0 = false then (.inr 0, S, X) else if zisr a1 = false then (.inr 2, S, X) else match zpa (zch X.1 X.2.1) X.2.1 (znn a1) with
  | .inr _ => (.inr 1, S, X)
  | .inl q => (.inl (Int32.ofNat q.1), zup S (znn a0) (znn a1, q.1, q.2.1, q.2.2, (0, q.2.2, zg0)), (X.1, 0, X.2.2))
def zt_write (S : zSs) (X : zXt) (a0 : Int32) : (Int32 ⊕ Nat) × zXt := if zslot a0 = false then (.inr 0, X) else match S (znn a0) with
  | none => (.inr 1, X)
  | some M => (.inl (Int32.ofNat (zwX M.1 M.2.1 M.2.2.1 M.2.2.2.2.2.1).length), (X.1, X.2.1, zwX M.1 M.2.1 M.2.2.1 M.2.2.2.2.2.1))
def zt_written (X : zXt) (a0 : Int32) : Int32 ⊕ Nat := if zlin X.2.2.length a0 = true then .inl (X.2.2[znn a0]?.getD 0) else .inr 0
theorem r_type {K : zKt} {w : Nat → Int64} {p : Nat × Nat} {Q : zR → zH → Prop} {S : zSs} {X : zXt} {c0 : Int32} {I : zIt} {A : zAt} {a0 : Int32} (hX : zXw X) (h : zRA S X c0 I A) (H : ∀ I' A', zRA S (zt_type X a0).2 (zcd [2, 1] (zt_type X a0).1) I' A' → Q (.inl (some (.int (zrv (zt_type X a0).1)))) (zh K I' A' w)) : zT zm_224 [.ref 75, .int a0] p (zh K I A w) Q := by
  obtain ⟨rf, rs, bad, pr, pn, ⟨len, plc, fin, ef, es, rr, rc, om⟩, m, pa, pb, pc, vf, vs, ⟨tx, rd, ou⟩, rfl, rfl, hR, j1, j2, j3⟩ := h
  have j1 : len = X.2.1 := j1
  have j2 : ∀ k, k < X.2.1 → tx k = X.1 k := j2
  refine b224 ⟨fun c k hk ek => ⟨by have := hX.1; omega, fun hne => ⟨by have := hX.1; omega, ?_⟩, fun heq => ?_⟩, fun c => ?_⟩
  · have e : zt_type X a0 = (.inl (Int32.ofNat (X.2.1 + 1)), (va_up X.1 X.2.1 a0, X.2.1 + 1, X.2.2)) := by unfold zt_type; rw [if_neg (by rw [c]; decide), if_neg (by omega)]
    rw [e] at H
    rw [j1, ← ek]
    refine H _ _ ⟨_, _, _, _, _, _, _, _, _, _, _, _, _, rfl, rfl, hR, rfl, fun k hk => ?_, j3⟩
    show va_up tx X.2.1 a0 k = va_up X.1 X.2.1 a0 k
    by_cases hkl : k = X.2.1
    · subst hkl; rw [va_up_self, va_up_self]
    · rw [va_up_ne _ _ hkl, va_up_ne _ _ hkl]; exact j2 k (by have : k < X.2.1 + 1 := hk; omega)
  · have e : zt_type X a0 = (.inr 1, X) := by unfold zt_type; rw [if_neg (by rw [c]; decide), if_pos (by omega)]
    rw [e] at H
    exact H _ _ ⟨_, _, _, _, _, _, _, _, _, _, _, _, _, rfl, rfl, hR, j1, j2, j3⟩
  · have e : zt_type X a0 = (.inr 2, X) := by unfold zt_type; rw [if_pos c]
    rw [e] at H
    exact H _ _ ⟨_, _, _, _, _, _, _, _, _, _, _, _, _, rfl, rfl, hR, j1, j2, j3⟩
theorem r_clear {K : zKt} {w : Nat → Int64} {p : Nat × Nat} {Q : zR → zH → Prop} {S : zSs} {X : zXt} {c0 : Int32} {I : zIt} {A : zAt} (h : zRA S X c0 I A) (H : ∀ I' A', zRA S (X.1, 0, X.2.2) 0 I' A' → Q (.inl (some (.int (Int32.ofNat X.2.1)))) (zh K I' A' w)) : zT zm_225 [.ref 75] p (zh K I A w) Q := by
  obtain ⟨rf, rs, bad, pr, pn, ⟨len, plc, fin, ef, es, rr, rc, om⟩, m, pa, pb, pc, vf, vs, ⟨tx, rd, ou⟩, rfl, rfl, hR, j1, j2, j3⟩ := h
  have j1 : len = X.2.1 := j1
  rw [j1]
  exact b225 (H _ _ ⟨_, _, _, _, _, _, _, _, _, _, _, _, _, rfl, rfl, hR, rfl, fun k hk => absurd hk (Nat.not_lt_zero k), j3⟩)
theorem r_fault {K : zKt} {w : Nat → Int64} {p : Nat × Nat} {Q : zR → zH → Prop} {S : zSs} {X : zXt} {c0 : Int32} {I : zIt} {A : zAt} {a0 : Int32} (hX : zXw X) (h : zRA S X c0 I A) (H : ∀ I' A', zRA S X (zcd [2] (zt_fault X a0)) I' A' → Q (.inl (some (.int (zrv (zt_fault X a0))))) (zh K I' A' w)) : zT zm_226 [.ref 75, .int a0] p (zh K I A w) Q := by
  obtain ⟨rf, rs, bad, pr, pn, ⟨len, plc, fin, ef, es, rr, rc, om⟩, m, pa, pb, pc, vf, vs, ⟨tx, rd, ou⟩, rfl, rfl, hR, j1, j2, j3⟩ := h
  have j1 : len = X.2.1 := j1
  subst j1
  refine b226 ⟨fun c k hk ek => ?_, fun c => ?_⟩
  · have e : zt_fault X a0 = match zpa (zch X.1 X.2.1) X.2.1 k with
      | .inl _ => .inl (-1)
      | .inr f => .inl (Int32.ofNat f) := by unfold zt_fault; rw [if_neg (by rw [c]; decide), ek, znn_o (zrg_lt hk)]
    refine s227 (zch_L hX.1) (zch_e rfl j2) hX.1 hk (fun h wd E ep plc' ef' es' rd' hrr => b226_23 (rv := true) ⟨fun h => (by cases h), fun _ => ?_⟩) (fun f ep rr' rc' ef' es' rd' => b226_23 (rv := false) ⟨fun _ => ?_, fun h => (by cases h)⟩)
    · rw [ep] at e
      rw [e] at H
      exact H _ _ ⟨_, _, _, _, _, _, _, _, _, _, _, _, _, rfl, rfl, hR, rfl, j2, j3⟩
    · rw [ep] at e
      rw [e] at H
      exact H _ _ ⟨_, _, _, _, _, _, _, _, _, _, _, _, _, rfl, rfl, hR, rfl, j2, j3⟩
  · have e : zt_fault X a0 = .inr 2 := by unfold zt_fault; rw [if_pos c]
    rw [e] at H
    exact H _ _ ⟨_, _, _, _, _, _, _, _, _, _, _, _, _, rfl, rfl, hR, rfl, j2, j3⟩
theorem r_parse {K : zKt} {w : Nat → Int64} {p : Nat × Nat} {Q : zR → zH → Prop} {S : zSs} {X : zXt} {c0 : Int32} {I : zIt} {A : zAt} {a0 a1 : Int32} (hw : zSw S) (hX : zXw X) (h : zRA S X c0 I A) (H : ∀ I' A', zRA (zt_parse S X a0 a1).2.1 (zt_parse S X a0 a1).2.2 (zcd [0, 2, 1] (zt_parse S X a0 a1).1) I' A' → Q (.inl (some (.int (zrv (zt_parse S X a0 a1).1)))) (zh K I' A' w)) : zT zm_239 [.ref 75, .int a0, .int a1] p (zh K I A w) Q := by
  obtain ⟨rf, rs, bad, pr, pn, ⟨len, plc, fin, ef, es, rr, rc, om⟩, m, pa, pb, pc, vf, vs, ⟨tx, rd, ou⟩, rfl, rfl, hR, j1, j2, j3⟩ := h
  have j1 : len = X.2.1 := j1
  subst j1
  refine b239 ⟨fun c0 k hk ek => ⟨fun c1 r hr er => ?_, fun c1 => ?_⟩, fun c0 => ?_⟩
  · have e : zt_parse S X a0 a1 = match zpa (zch X.1 X.2.1) X.2.1 r with
      | .inr _ => (.inr 1, S, X)
      | .inl q => (.inl (Int32.ofNat q.1), zup S k (r, q.1, q.2.1, q.2.2, (0, q.2.2, zg0)), (X.1, 0, X.2.2)) := by unfold zt_parse; rw [if_neg (by rw [c0]; decide), if_neg (by rw [c1]; decide), er, ek, znn_o (zrg_lt hr), znn_o (k := k) (by omega)]
    refine s227 (zch_L hX.1) (zch_e rfl j2) hX.1 hr (fun h wd E ep plc' ef' es' rd' hrr => b239_36 (rv := true) ⟨fun _ => ?_, fun h => (by cases h)⟩) (fun f ep rr' rc' ef' es' rd' => b239_36 (rv := false) ⟨fun h => (by cases h), fun _ => ?_⟩)
    · rw [ep] at e
      rw [e] at H
      obtain ⟨hsh, hE⟩ := (zpa_ok (zch_L hX.1) hr).1 h wd E ep
      have h4 := hsh.2.2.1
      have h5 := hsh.2.2.2.2
      rw [z1068]
      refine s145 (β := 1068 * k) (by omega) (fun m1 f1 f2 => b239_63 ?_)
      have f3 := f2 zg0
      have l65 : ∀ (n i : Nat) (m2 : Nat → Int32), i + n = h → zfr (1068 * k) m m2 → zRh m2 (1068 * k) r h wd → zRE m2 (1068 * k + 4) (fun a c => if a < i then E a c else (0, 0)) → zW zm_239 65 [some (.ref 75), some (.int (Int32.ofNat k)), none, some (.int (Int32.ofNat i)), none] [] p (zh K ((0 : Int32), rf, rs, bad, pr, pn, X.2.1, plc', true, ef', es', h, wd, om) (m2, pa, pb, pc, vf, vs, tx, rd', ou) w) Q := by
        intro n
        induction n with
        | zero =>
          intro i m2 hi g1 g2 g3
          refine b239_65 ⟨by omega, by omega, fun _ => ?_, fun h => (by omega)⟩
          rw [z1068]
          refine s146 (β := 1068 * k) (r := r) (h := h) (d := wd) (E := E) (by omega) g2 (fun a c ha hc => ?_) (fun m3 y1 y2 => b239_151 ?_)
          · have := g3 a c ha hc
            by_cases hai : a < i
            · simp only [if_pos hai] at this; exact this
            · simp only [if_neg hai] at this; rw [hE.2 a c (by omega)]; exact this
          · exact H _ _ ⟨_, _, _, _, _, _, _, _, _, _, _, _, _, rfl, rfl, zRS_up hR hw (zfr_t g1 y1) (y2 zg0), rfl, fun k hk => absurd hk (Nat.not_lt_zero k), j3⟩
        | succ n ih =>
          intro i m2 hi g1 g2 g3
          refine b239_65 ⟨by omega, by omega, fun h => (by omega), fun _ => ?_⟩
          have l76 : ∀ (n c : Nat) (m3 : Nat → Int32), c + n = wd → zfr (1068 * k) m m3 → zRh m3 (1068 * k) r h wd → zRE m3 (1068 * k + 4) (fun a b => if a < i ∨ (a = i ∧ b < c) then E a b else (0, 0)) → zW zm_239 76 [some (.ref 75), some (.int (Int32.ofNat k)), none, some (.int (Int32.ofNat i)), some (.int (Int32.ofNat c))] [] p (zh K ((0 : Int32), rf, rs, bad, pr, pn, X.2.1, plc', true, ef', es', h, wd, om) (m3, pa, pb, pc, vf, vs, tx, rd', ou) w) Q := by
            intro n
            induction n with
            | zero =>
              intro c m3 hc y1 y2 y3
              refine b239_76 ⟨by omega, by omega, fun _ => ih (i + 1) m3 (by omega) y1 y2 (fun a b ha hb => ?_), fun h => (by omega)⟩
              have := y3 a b ha hb
              by_cases hai : a < i + 1
              · simp only [if_pos hai]
                by_cases hp : a < i ∨ (a = i ∧ b < c)
                · simp only [if_pos hp] at this; exact this
                · simp only [if_neg hp] at this; rw [hE.2 a b (by omega)]; exact this
              · simp only [if_neg hai]
                simp only [if_neg (show ¬ (a < i ∨ (a = i ∧ b < c)) by omega)] at this; exact this
            | succ n ih2 =>
              intro c m3 hc y1 y2 y3
              have hr2 := hrr i c (by omega) (by omega)
              refine b239_76 ⟨by omega, by omega, fun h => (by omega), fun _ => ⟨by omega, by omega, by omega, ih2 (c + 1) _ (by omega) (fun q hq => ?_) (zRh_eq (fun q _ _ => zu2_n (by omega) (by omega)) y2) (fun a b ha hb => ?_)⟩⟩
              · rw [zu2_n (by omega) (by omega)]; exact y1 q hq
              · by_cases hab : a = i ∧ b = c
                · obtain ⟨rfl, rfl⟩ := hab
                  rw [zu2_0, zu2_1]
                  show rd' (8 * a + 2 * b) = (if a < a ∨ (a = a ∧ b < b + 1) then E a b else (0, 0)).1 ∧ rd' (8 * a + 2 * b + 1) = (if a < a ∨ (a = a ∧ b < b + 1) then E a b else (0, 0)).2
                  rw [if_pos (Or.inr ⟨rfl, by omega⟩)]
                  exact hr2
                · rw [zu2_n (by omega) (by omega), zu2_n (by omega) (by omega)]
                  have := y3 a b ha hb
                  by_cases hp : a < i ∨ (a = i ∧ b < c)
                  · simp only [if_pos hp] at this
                    simp only [if_pos (show a < i ∨ (a = i ∧ b < c + 1) by omega)]; exact this
                  · simp only [if_neg hp] at this
                    simp only [if_neg (show ¬ (a < i ∨ (a = i ∧ b < c + 1)) by omega)]; exact this
          refine l76 wd 0 m2 (by omega) g1 g2 (fun a b ha hb => ?_)
          have := g3 a b ha hb
          by_cases hai : a < i
          · simp only [if_pos hai] at this
            simp only [if_pos (show a < i ∨ (a = i ∧ b < 0) from Or.inl hai)]; exact this
          · simp only [if_neg hai] at this
            simp only [if_neg (show ¬ (a < i ∨ (a = i ∧ b < 0)) by omega)]; exact this
      refine l65 h 0 m1 (by omega) f1 f3.1 (fun a c ha hc => ?_)
      simp only [if_neg (Nat.not_lt_zero a)]
      exact f3.2.2.1 a c ha hc
    · rw [ep] at e
      rw [e] at H
      exact H _ _ ⟨_, _, _, _, _, _, _, _, _, _, _, _, _, rfl, rfl, hR, rfl, j2, j3⟩
  · have e : zt_parse S X a0 a1 = (.inr 2, S, X) := by unfold zt_parse; rw [if_neg (by rw [c0]; decide), if_pos c1]
    rw [e] at H
    exact H _ _ ⟨_, _, _, _, _, _, _, _, _, _, _, _, _, rfl, rfl, hR, rfl, j2, j3⟩
  · have e : zt_parse S X a0 a1 = (.inr 0, S, X) := by unfold zt_parse; rw [if_pos c0]
    rw [e] at H
    exact H _ _ ⟨_, _, _, _, _, _, _, _, _, _, _, _, _, rfl, rfl, hR, rfl, j2, j3⟩
theorem r_write {K : zKt} {w : Nat → Int64} {p : Nat × Nat} {Q : zR → zH → Prop} {S : zSs} {X : zXt} {c0 : Int32} {I : zIt} {A : zAt} {a0 : Int32} (hw : zSw S) (h : zRA S X c0 I A) (H : ∀ I' A', zRA S (zt_write S X a0).2 (zcd [0, 1] (zt_write S X a0).1) I' A' → Q (.inl (some (.int (zrv (zt_write S X a0).1)))) (zh K I' A' w)) : zT zm_240 [.ref 75, .int a0] p (zh K I A w) Q := by
  obtain ⟨rf, rs, bad, pr, pn, ⟨len, plc, fin, ef, es, rr, rc, om⟩, m, pa, pb, pc, vf, vs, ⟨tx, rd, ou⟩, rfl, rfl, hR, j1, j2, j3⟩ := h
  have code : Int32 := 0
  refine b240 (s169 hw hR (fun c0 => b240_5 ⟨fun h => absurd h (by decide), fun _ => ?_⟩) (fun k hk ek c0 e => b240_5 ⟨fun h => absurd h (by decide), fun _ => ?_⟩) (fun k M hk ek c0 e => b240_5 ⟨fun _ => ?_, fun h => absurd (by decide) h⟩))
  · have ex : zt_write S X a0 = (.inr 0, X) := by unfold zt_write; rw [if_pos c0]
    rw [ex] at H
    exact H _ _ ⟨_, _, _, _, _, _, _, _, _, _, _, _, _, rfl, rfl, hR, j1, j2, j3⟩
  · have ex : zt_write S X a0 = (.inr 1, X) := by unfold zt_write; rw [if_neg (by rw [c0]; decide), ek, znn_o (by omega), e]
    rw [ex] at H
    exact H _ _ ⟨_, _, _, _, _, _, _, _, _, _, _, _, _, rfl, rfl, hR, j1, j2, j3⟩
  have ex : zt_write S X a0 = (.inl (Int32.ofNat (zwX M.1 M.2.1 M.2.2.1 M.2.2.2.2.2.1).length), (X.1, X.2.1, zwX M.1 M.2.1 M.2.2.1 M.2.2.2.2.2.1)) := by unfold zt_write; rw [if_neg (by rw [c0]; decide), ek, znn_o (by omega), e]
  rw [ex] at H
  have hM := hw k M hk e
  have hb := zRS_b hR hk e
  have h4 := hM.1.2.2.1
  have h5 := hM.1.2.2.2.2
  have h6 := hM.1.2.2.2.1
  have hr1 := zrg_lt hM.1.1
  have hE := hM.2.2.1.1
  have hb3 : zRE m (1068 * k + 4) M.2.2.2.2.2.1 := hb.2.2.1
  generalize M.2.2.2.2.2.1 = E at *
  have mr : m (1068 * k + 0) = Int32.ofNat M.1 := hb.1.1
  have disp : ∀ (i c om : Nat) (ou pa : Nat → Int32) (L : List Int32), i < 4 → c < 4 → zWL ou om L → om + 34 ≤ 561 → (∀ n' u' pa', zWL u' n' (L ++ zwe M.1 (E i c)) → zW zm_240 62 [some (.ref 75), none, none, some (.int (Int32.ofNat (1068 * k))), some (.int (Int32.ofNat i)), some (.int (Int32.ofNat (c + 1))), none] [] p (zh K ((0 : Int32), rf, rs, bad, pr, pn, len, plc, fin, ef, es, rr, rc, n') (m, pa', pb, pc, vf, vs, tx, rd, u') w) Q) → (∃ j4, ((Int32.ofNat (1068 * k)) + (0 : Int32)) = Int32.ofNat j4 ∧ (j4 < 5340 ∧ ((¬ (m j4) = (0 : Int32) → ((¬ (m j4) = (1 : Int32) → (∃ j8, ((((Int32.ofNat (1068 * k)) + (4 : Int32)) + ((8 : Int32) * (Int32.ofNat i))) + ((2 : Int32) * (Int32.ofNat c))) = Int32.ofNat j8 ∧ (j8 < 5340 ∧ zT zm_244 [.ref 75, .int (m j4), .int (m j8)] p (zh K ((0 : Int32), rf, rs, bad, pr, pn, len, plc, fin, ef, es, rr, rc, om) (m, pa, pb, pc, vf, vs, tx, rd, ou) w) (zK zm_240 175 [some (.ref 75), none, none, some (.int (Int32.ofNat (1068 * k))), some (.int (Int32.ofNat i)), some (.int (Int32.ofNat c)), none] [] p Q)))) ∧ ((m j4) = (1 : Int32) → (∃ j10, ((((Int32.ofNat (1068 * k)) + (4 : Int32)) + ((8 : Int32) * (Int32.ofNat i))) + ((2 : Int32) * (Int32.ofNat c))) = Int32.ofNat j10 ∧ (j10 < 5340 ∧ (∃ j12, (((((Int32.ofNat (1068 * k)) + (4 : Int32)) + ((8 : Int32) * (Int32.ofNat i))) + ((2 : Int32) * (Int32.ofNat c))) + (1 : Int32)) = Int32.ofNat j12 ∧ (j12 < 5340 ∧ zT zm_243 [.ref 75, .int (m j10), .int (m j12)] p (zh K ((0 : Int32), rf, rs, bad, pr, pn, len, plc, fin, ef, es, rr, rc, om) (m, pa, pb, pc, vf, vs, tx, rd, ou) w) (zK zm_240 153 [some (.ref 75), none, none, some (.int (Int32.ofNat (1068 * k))), some (.int (Int32.ofNat i)), some (.int (Int32.ofNat c)), none] [] p Q)))))))) ∧ ((m j4) = (0 : Int32) → (∃ j14, ((((Int32.ofNat (1068 * k)) + (4 : Int32)) + ((8 : Int32) * (Int32.ofNat i))) + ((2 : Int32) * (Int32.ofNat c))) = Int32.ofNat j14 ∧ (j14 < 5340 ∧ zT zm_242 [.ref 75, .int (m j14)] p (zh K ((0 : Int32), rf, rs, bad, pr, pn, len, plc, fin, ef, es, rr, rc, om) (m, pa, pb, pc, vf, vs, tx, rd, ou) w) (zK zm_240 118 [some (.ref 75), none, none, some (.int (Int32.ofNat (1068 * k))), some (.int (Int32.ofNat i)), some (.int (Int32.ofNat c)), none] [] p Q))))))) := by
    intro i c om ou pa L hi hc hW hn HW
    have em := hb3 i c hi hc
    have q0 : Int32.ofNat M.1 = 0 ↔ M.1 = 0 := zN_e (b := 0) (by omega) (by omega)
    have q1 : Int32.ofNat M.1 = 1 ↔ M.1 = 1 := zN_e (b := 1) (by omega) (by omega)
    have a0' : Int32.ofNat (1068 * k) + (0 : Int32) = Int32.ofNat (1068 * k + 0) := zN_a rfl rfl
    have a4 : Int32.ofNat (1068 * k) + (4 : Int32) + (8 : Int32) * Int32.ofNat i + (2 : Int32) * Int32.ofNat c = Int32.ofNat (1068 * k + 4 + 8 * i + 2 * c) := zN_a (zN_a (zN_a rfl rfl) (zN_m rfl rfl)) (zN_m rfl rfl)
    refine ⟨1068 * k + 0, a0', by omega, ?_⟩
    rw [mr, q0, q1]
    have hok := hE i c
    refine ⟨fun n0 => ⟨fun n1 => ⟨1068 * k + 4 + 8 * i + 2 * c, a4, by omega, ?_⟩, fun e1 => ⟨1068 * k + 4 + 8 * i + 2 * c, a4, by omega, 1068 * k + 4 + 8 * i + 2 * c + 1, zN_a a4 rfl, by omega, ?_⟩⟩, fun e0 => ⟨1068 * k + 4 + 8 * i + 2 * c, a4, by omega, ?_⟩⟩
    · have hq : zprm M.1 := (zrg_c hM.1.1).resolve_left n0 |>.resolve_left n1
      rw [em.1]
      obtain ⟨v, hv, ev⟩ := (zok_p hq).mp hok
      have hpw := zpw_lt hq
      rw [ev] at HW ⊢
      rw [zwe_p hq, show znn (Int32.ofNat v) = v from znn_o (by omega)] at HW
      exact s244 hq hv hW (by omega) (fun n' u' pa' h => b240_175 (HW n' u' pa' h))
    · rw [em.1, em.2]
      rw [e1] at hok HW
      exact s243 hok hW (by omega) (fun n' u' h => b240_153 (HW n' u' pa h))
    · rw [em.1]
      rw [e0] at hok HW
      have h1 : -1000000000 ≤ (E i c).1.toInt := hok.1
      have h2 : (E i c).1.toInt ≤ 1000000000 := hok.2.1
      exact s242 h1 h2 hW (by omega) (fun n' u' h => b240_118 (HW n' u' pa h))
  have l30 : ∀ (y i om : Nat) (ou pa : Nat → Int32), i + y = M.2.1 → zWL ou om (zwM M.1 M.2.2.1 E i) → zW zm_240 30 [some (.ref 75), none, none, some (.int (Int32.ofNat (1068 * k))), some (.int (Int32.ofNat i)), none, none] [] p (zh K ((0 : Int32), rf, rs, bad, pr, pn, len, plc, fin, ef, es, rr, rc, om) (m, pa, pb, pc, vf, vs, tx, rd, ou) w) Q := by
    intro y
    induction y with
    | zero =>
      intro i om ou pa hi hW
      have : i = M.2.1 := by omega
      subst this
      have lx := zwX_len hM.1 hE
      have hl := hW.1
      have hx : (zwX M.1 M.2.1 M.2.2.1 E).length = om + 1 := by unfold zwX; rw [List.length_append, hl]; rfl
      refine b240_30 ⟨1068 * k + 1, zN_a rfl rfl, by omega, ?_⟩
      rw [hb.1.2.1, zN_leI (by omega) (by omega)]
      refine ⟨fun _ => ⟨by omega, ?_⟩, fun h => absurd (Nat.le_refl _) h⟩
      rw [hx] at H
      exact H _ _ ⟨_, _, _, _, _, _, _, _, _, _, _, _, _, rfl, rfl, hR, j1, j2, zWL_s hW⟩
    | succ y ih =>
      intro i om ou pa hi hW
      have l62 : ∀ (z c om : Nat) (ou pa : Nat → Int32), c + z = M.2.2.1 → zWL ou om (zwM M.1 M.2.2.1 E i ++ ((if i = 0 then [91] else [59]) ++ zwR M.1 (E i) c)) → zW zm_240 62 [some (.ref 75), none, none, some (.int (Int32.ofNat (1068 * k))), some (.int (Int32.ofNat i)), some (.int (Int32.ofNat c)), none] [] p (zh K ((0 : Int32), rf, rs, bad, pr, pn, len, plc, fin, ef, es, rr, rc, om) (m, pa, pb, pc, vf, vs, tx, rd, ou) w) Q := by
        intro z
        induction z with
        | zero =>
          intro c om ou pa hc hW'
          have : c = M.2.2.1 := by omega
          subst this
          refine b240_62 ⟨1068 * k + 2, zN_a rfl rfl, by omega, ?_⟩
          rw [hb.1.2.2, zN_leI (by omega) (by omega)]
          exact ⟨fun _ => ih (i + 1) om ou pa (by omega) hW', fun h => absurd (Nat.le_refl _) h⟩
        | succ z ih2 =>
          intro c om ou pa hc hW'
          have hbd := zwM_b hM.1 hE (show i < M.2.1 by omega) (show c ≤ M.2.2.1 by omega)
          have hl := hW'.1
          have hz : 1 * 35 ≤ (M.2.2.1 - c) * 35 := Nat.mul_le_mul_right 35 (by omega)
          refine b240_62 ⟨1068 * k + 2, zN_a rfl rfl, by omega, ?_⟩
          rw [hb.1.2.2, zN_leI (by omega) (by omega)]
          refine ⟨fun h => absurd h (by omega), fun _ => ⟨by omega, fun hc0 => ?_, fun hc0 => ⟨?_, ?_⟩⟩⟩
          · have hc0 : c = 0 := by omega
            rw [if_pos hc0] at hbd
            refine disp i c om ou pa _ (by omega) (by omega) hW' (by omega) (fun n' u' pa' h => ih2 (c + 1) n' u' pa' (by omega) ?_)
            rw [zwR, if_pos hc0, List.nil_append, ← List.append_assoc, ← List.append_assoc]
            rw [List.append_assoc, List.append_assoc] at h
            rw [List.append_assoc, List.append_assoc]
            exact h
          · rw [if_neg (show ¬ c = 0 by omega)] at hbd; omega
          · rw [if_neg (show ¬ c = 0 by omega)] at hbd
            refine disp i c (om + 1) _ pa _ (by omega) (by omega) (zWL_s hW') (by omega) (fun n' u' pa' h => ih2 (c + 1) n' u' pa' (by omega) ?_)
            rw [zwR, if_neg (show ¬ c = 0 by omega)]
            simp only [List.append_assoc] at h ⊢
            exact h
      have a1 := zwM_len hM.1.1 h6 hE i
      have h7 : i * (M.2.2.1 * 35) ≤ 4 * (4 * 35) := Nat.mul_le_mul (by omega) (Nat.mul_le_mul_right 35 h5)
      have hl := hW.1
      refine b240_30 ⟨1068 * k + 1, zN_a rfl rfl, by omega, ?_⟩
      rw [hb.1.2.1, zN_leI (by omega) (by omega)]
      refine ⟨fun h => absurd h (by omega), fun _ => ⟨by omega, fun hi0 => ⟨by omega, ?_⟩, fun hi0 => ⟨by omega, ?_⟩⟩⟩
      · refine l62 M.2.2.1 0 (om + 1) _ pa (by omega) ?_
        rw [if_neg hi0]
        have := zWL_s (c := 59) hW
        rw [show zwR M.1 (E i) 0 = [] from rfl, List.append_nil]
        exact this
      · refine l62 M.2.2.1 0 (om + 1) _ pa (by omega) ?_
        rw [if_pos hi0]
        have := zWL_s (c := 91) hW
        rw [show zwR M.1 (E i) 0 = [] from rfl, List.append_nil]
        exact this
  rw [ek, z1068]
  exact l30 M.2.1 0 0 ou pa (by omega) ⟨rfl, fun k hk => absurd hk (Nat.not_lt_zero k)⟩
theorem r_written {K : zKt} {w : Nat → Int64} {p : Nat × Nat} {Q : zR → zH → Prop} {S : zSs} {X : zXt} {c0 : Int32} {I : zIt} {A : zAt} {a0 : Int32} (hX : zXw X) (h : zRA S X c0 I A) (H : ∀ I' A', zRA S X (zcd [0] (zt_written X a0)) I' A' → Q (.inl (some (.int (zrv (zt_written X a0))))) (zh K I' A' w)) : zT zm_245 [.ref 75, .int a0] p (zh K I A w) Q := by
  obtain ⟨rf, rs, bad, pr, pn, ⟨len, plc, fin, ef, es, rr, rc, om⟩, m, pa, pb, pc, vf, vs, ⟨tx, rd, ou⟩, rfl, rfl, hR, j1, j2, j3⟩ := h
  have j3 : zWL ou om X.2.2 := j3
  have hl := hX.2
  have hom := j3.1
  refine b245 ?_
  rw [zin_0 (by omega)]
  refine ⟨fun c => ?_, fun c k hk ek => ?_⟩
  · have e : zt_written X a0 = .inr 0 := by unfold zt_written; rw [← hom, if_neg (by rw [c]; decide)]
    rw [e] at H
    exact H _ _ ⟨_, _, _, _, _, _, _, _, _, _, _, _, _, rfl, rfl, hR, j1, j2, j3⟩
  · obtain ⟨x, hx, exx⟩ := zlin_n c
    have : k = x := zN_inj hk (by omega) (ek.symm.trans exx)
    subst this
    have e : zt_written X a0 = .inl (ou k) := by
      unfold zt_written
      rw [← hom, if_pos c, ek, znn_o hk, j3.2 k (by omega)]; rfl
    rw [e] at H
    exact ⟨by omega, H _ _ ⟨_, _, _, _, _, _, _, _, _, _, _, _, _, rfl, rfl, hR, j1, j2, j3⟩⟩
