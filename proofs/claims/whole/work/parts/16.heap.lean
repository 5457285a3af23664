/-! THE HEAP once the law's objects are made, as a picture. A matrix: ring, height, width, count, entries, original, line, kinds, targets, sources, factors -/
abbrev zX : Type := Nat × Nat × Nat × Nat × (Nat → Int64) × (Nat → Int64) × (Nat → Int64) × (Nat → Int32) × (Nat → Int32) × (Nat → Int32) × (Nat → Int64)
/-- the class: scratch of the polynomials, matrices, typed text, output, reader (cells, position, fault, width, closed) -/
abbrev zKt : Type := (Nat → (Nat → Int32) × (Nat → Int32) × (Nat → Int32)) × (Nat → zX) × ((Nat → Int32) × Nat) × ((Nat → Int32) × Nat) × ((Nat → Int64) × Nat × Int32 × Nat × Bool)
/-- the reference's numbers: code rf rs bad pivotRow pivotColumn length place fine ef es readRows readColumns outMany -/
abbrev zIt : Type := Int32 × Int32 × Int32 × Bool × Int32 × Int32 × Nat × Nat × Bool × Int32 × Int32 × Nat × Nat × Nat
/-- its arrays: m pa pb pc vf vs text read out -/
abbrev zAt : Type := (Nat → Int32) × (Nat → Int32) × (Nat → Int32) × (Nat → Int32) × (Nat → Int32) × (Nat → Int32) × (Nat → Int32) × (Nat → Int32) × (Nat → Int32)
/-- a ring's place -/
def zra (r : Nat) : Nat := match r with
  | 0 => 1
  | 1 => 3
  | 2 => 4
  | 3 => 8
  | 5 => 12
  | 7 => 16
  | _ => 1
def zpj (j : Nat) : Nat := match j with
  | 1 => 2
  | 2 => 3
  | 3 => 5
  | _ => 7
def zpb (j : Nat) : Nat := match j with
  | 1 => 256
  | 2 => 6561
  | 3 => 390625
  | _ => 5764801
def zrgs : Nat → Option Nat := va_up (va_up (va_up (va_up (va_up (va_up (fun _ => none) 0 (some 1)) 1 (some 3)) 2 (some 4)) 3 (some 8)) 4 (some 12)) 5 (some 16)
def zsls : Nat → Option Nat := va_up (va_up (va_up (fun _ => none) 0 (some 21)) 1 (some 29)) 2 (some 37)
def zpf (j : Nat) : List Value := [.int (Int32.ofNat (zpj j)), .int (Int32.ofNat (zpj j)), .int (Int32.ofNat (zpb j)), .ref (4 * j + 1), .ref (4 * j + 2), .ref (4 * j + 3)]
def zpc (j : Nat) (a : (Nat → Int32) × (Nat → Int32) × (Nat → Int32)) (c : Nat) : zC :=
  bif Nat.beq c 0 then .inr (4, zpf j) else bif Nat.beq c 1 then .inl (0, 8, .inl a.1) else bif Nat.beq c 2 then .inl (0, 8, .inl a.2.1) else .inl (0, 8, .inl a.2.2)
def zxf (i : Nat) (X : zX) : List Value := [.ref (zra X.1), .int (Int32.ofNat X.2.1), .int (Int32.ofNat X.2.2.1), .ref (21 + 8 * i + 1), .ref (21 + 8 * i + 2), .ref (21 + 8 * i + 3), .int (Int32.ofNat X.2.2.2.1), .ref (21 + 8 * i + 4), .ref (21 + 8 * i + 5), .ref (21 + 8 * i + 6), .ref (21 + 8 * i + 7)]
def zxc (i : Nat) (X : zX) (c : Nat) : zC :=
  bif Nat.beq c 0 then .inr (2, zxf i X) else bif Nat.beq c 1 then .inl (1, 16, .inr (.inl X.2.2.2.2.1)) else bif Nat.beq c 2 then .inl (1, 16, .inr (.inl X.2.2.2.2.2.1)) else bif Nat.beq c 3 then .inl (1, 4, .inr (.inl X.2.2.2.2.2.2.1)) else
  bif Nat.beq c 4 then .inl (0, 200, .inl X.2.2.2.2.2.2.2.1) else bif Nat.beq c 5 then .inl (0, 200, .inl X.2.2.2.2.2.2.2.2.1) else bif Nat.beq c 6 then .inl (0, 200, .inl X.2.2.2.2.2.2.2.2.2.1) else .inl (1, 200, .inr (.inl X.2.2.2.2.2.2.2.2.2.2))
def zh0 (k : Nat) : zC := bif Nat.beq k 0 then .inr (6, [.ref 2, .ref 20, .ref 69, .ref 71, .ref 73, .ref 45, .ref 53, .ref 61]) else bif Nat.beq k 1 then .inr (1, [.int 0]) else bif Nat.beq k 2 then .inl (3, 6, .inr (.inr (.inr (.inr zrgs)))) else .inr (0, [.int 1])
def zh1 (y u : (Nat → Int32) × Nat) (d : (Nat → Int64) × Nat × Int32 × Nat × Bool) (k : Nat) : zC :=
  bif Nat.beq k 69 then .inr (5, [.ref 70, .int (Int32.ofNat y.2)]) else bif Nat.beq k 70 then .inl (0, 120, .inl y.1) else bif Nat.beq k 71 then .inr (5, [.ref 72, .int (Int32.ofNat u.2)]) else bif Nat.beq k 72 then .inl (0, 561, .inl u.1) else
  bif Nat.beq k 73 then .inr (3, [.ref 69, .ref 74, .int (Int32.ofNat d.2.1), .int d.2.2.1, .int (Int32.ofNat d.2.2.2.1), .int (zbi d.2.2.2.2)]) else .inl (1, 16, .inr (.inl d.1))
def zhK (K : zKt) (k : Nat) : zC :=
  bif Nat.blt k 4 then zh0 k else bif Nat.blt k 20 then zpc (k / 4) (K.1 (k / 4)) (k % 4) else bif Nat.beq k 20 then .inl (2, 3, .inr (.inr (.inr (.inr zsls)))) else
  bif Nat.blt k 69 then zxc ((k - 21) / 8) (K.2.1 ((k - 21) / 8)) ((k - 21) % 8) else zh1 K.2.2.1 K.2.2.2.1 K.2.2.2.2 k
def zfl (I : zIt) : List Value := [.ref 76, .int I.1, .int I.2.1, .int I.2.2.1, .int (zbi I.2.2.2.1), .ref 77, .ref 78, .ref 79, .int I.2.2.2.2.1, .int I.2.2.2.2.2.1, .ref 80, .ref 81, .ref 82, .int (Int32.ofNat I.2.2.2.2.2.2.1), .int (Int32.ofNat I.2.2.2.2.2.2.2.1), .int (zbi I.2.2.2.2.2.2.2.2.1),
  .int I.2.2.2.2.2.2.2.2.2.1, .int I.2.2.2.2.2.2.2.2.2.2.1, .ref 83, .int (Int32.ofNat I.2.2.2.2.2.2.2.2.2.2.2.1), .int (Int32.ofNat I.2.2.2.2.2.2.2.2.2.2.2.2.1), .ref 84, .int (Int32.ofNat I.2.2.2.2.2.2.2.2.2.2.2.2.2)]
def zhA (A : zAt) (w : Nat → Int64) (k : Nat) : zC :=
  bif Nat.beq k 76 then .inl (0, 5340, .inl A.1) else bif Nat.beq k 77 then .inl (0, 8, .inl A.2.1) else bif Nat.beq k 78 then .inl (0, 8, .inl A.2.2.1) else bif Nat.beq k 79 then .inl (0, 16, .inl A.2.2.2.1) else bif Nat.beq k 80 then .inl (0, 4, .inl A.2.2.2.2.1) else
  bif Nat.beq k 81 then .inl (0, 4, .inl A.2.2.2.2.2.1) else bif Nat.beq k 82 then .inl (0, 120, .inl A.2.2.2.2.2.2.1) else bif Nat.beq k 83 then .inl (0, 32, .inl A.2.2.2.2.2.2.2.1) else bif Nat.beq k 84 then .inl (0, 600, .inl A.2.2.2.2.2.2.2.2) else bif Nat.beq k 85 then .inl (1, 1, .inr (.inl w)) else .inl (1, 0, .inr (.inl (fun _ => 0)))
def zh (K : zKt) (I : zIt) (A : zAt) (w : Nat → Int64) : zH := fun k => bif Nat.blt k 75 then zhK K k else bif Nat.beq k 75 then .inr (7, zfl I) else zhA A w k
theorem va_up_up {α : Type} (f : Nat → α) (k : Nat) (v x : α) : va_up (va_up f k v) k x = va_up f k x := by
  funext j
  by_cases hj : j = k <;> simp [va_up, hj]
theorem va_up_id {α : Type} (f : Nat → α) (k : Nat) : va_up f k (f k) = f := by
  funext j
  by_cases hj : j = k <;> simp [va_up, hj]
theorem zbeqF {a b : Nat} (h : a ≠ b) : Nat.beq a b = false := by
  cases hb : Nat.beq a b with
  | false => rfl
  | true => exact absurd (Nat.eq_of_beq_eq_true hb) h
theorem zbltF {a b : Nat} (h : ¬ a < b) : Nat.blt a b = false := by
  cases hb : Nat.blt a b with
  | false => rfl
  | true => rw [Nat.blt_eq] at hb; exact absurd hb h
section ZH
variable {K : zKt} {I I' : zIt} {A : zAt} {w : Nat → Int64} {P : Nat → (Nat → Int32) × (Nat → Int32) × (Nat → Int32)} {T : Nat → zX} {y u : (Nat → Int32) × Nat} {d : (Nat → Int64) × Nat × Int32 × Nat × Bool}
theorem zu_75 : va_up (zh K I A w) 75 (.inr (7, zfl I')) = zh K I' A w := by
  funext k
  by_cases hk : k = 75
  · subst hk; rfl
  · simp only [va_up, if_neg hk, zh, zbeqF hk, cond_false]
theorem zhA_ne {A A' : zAt} {w w' : Nat → Int64} {a : Nat} (h : ∀ k, ¬ k < 76 → k ≠ a → zhA A w k = zhA A' w' k) (ha : 76 ≤ a) : va_up (zh K I A w) a (zhA A' w' a) = zh K I A' w' := by
  funext k
  by_cases hk : k = a
  · subst hk
    simp only [va_up, if_true, zh, zbltF (show ¬ k < 75 by omega), zbeqF (show k ≠ 75 by omega), cond_false]
  · simp only [va_up, if_neg hk, zh]
    by_cases h5 : k < 75
    · simp only [zbltT h5, cond_true]
    · by_cases h6 : k = 75
      · subst h6; rfl
      · simp only [zbltF h5, zbeqF h6, cond_false]
        exact h k (by omega) hk
theorem zhK_ne {K K' : zKt} {a : Nat} (h : ∀ k, k < 75 → k ≠ a → zhK K k = zhK K' k) (ha : a < 75) : va_up (zh K I A w) a (zhK K' a) = zh K' I A w := by
  funext k
  by_cases hk : k = a
  · subst hk
    simp only [va_up, if_true, zh, zbltT ha, cond_true]
  · simp only [va_up, if_neg hk, zh]
    by_cases h5 : k < 75
    · simp only [zbltT h5, cond_true]
      exact h k h5 hk
    · simp only [zbltF h5, cond_false]
theorem zu_76 {m pa pb pc vf vs tx rd ou F : Nat → Int32} : va_up (zh K I (m, pa, pb, pc, vf, vs, tx, rd, ou) w) 76 (.inl (0, 5340, .inl F)) = zh K I (F, pa, pb, pc, vf, vs, tx, rd, ou) w := zhA_ne (K := K) (I := I) (A := (m, pa, pb, pc, vf, vs, tx, rd, ou)) (A' := (F, pa, pb, pc, vf, vs, tx, rd, ou)) (w := w) (w' := w) (a := 76) (fun k hk hne => by simp only [zhA, zbeqF hne, cond_false]) (by decide)
theorem zu_77 {m pa pb pc vf vs tx rd ou F : Nat → Int32} : va_up (zh K I (m, pa, pb, pc, vf, vs, tx, rd, ou) w) 77 (.inl (0, 8, .inl F)) = zh K I (m, F, pb, pc, vf, vs, tx, rd, ou) w := zhA_ne (K := K) (I := I) (A := (m, pa, pb, pc, vf, vs, tx, rd, ou)) (A' := (m, F, pb, pc, vf, vs, tx, rd, ou)) (w := w) (w' := w) (a := 77) (fun k hk hne => by simp only [zhA, zbeqF hne, cond_false]) (by decide)
theorem zu_78 {m pa pb pc vf vs tx rd ou F : Nat → Int32} : va_up (zh K I (m, pa, pb, pc, vf, vs, tx, rd, ou) w) 78 (.inl (0, 8, .inl F)) = zh K I (m, pa, F, pc, vf, vs, tx, rd, ou) w := zhA_ne (K := K) (I := I) (A := (m, pa, pb, pc, vf, vs, tx, rd, ou)) (A' := (m, pa, F, pc, vf, vs, tx, rd, ou)) (w := w) (w' := w) (a := 78) (fun k hk hne => by simp only [zhA, zbeqF hne, cond_false]) (by decide)
theorem zu_79 {m pa pb pc vf vs tx rd ou F : Nat → Int32} : va_up (zh K I (m, pa, pb, pc, vf, vs, tx, rd, ou) w) 79 (.inl (0, 16, .inl F)) = zh K I (m, pa, pb, F, vf, vs, tx, rd, ou) w := zhA_ne (K := K) (I := I) (A := (m, pa, pb, pc, vf, vs, tx, rd, ou)) (A' := (m, pa, pb, F, vf, vs, tx, rd, ou)) (w := w) (w' := w) (a := 79) (fun k hk hne => by simp only [zhA, zbeqF hne, cond_false]) (by decide)
theorem zu_80 {m pa pb pc vf vs tx rd ou F : Nat → Int32} : va_up (zh K I (m, pa, pb, pc, vf, vs, tx, rd, ou) w) 80 (.inl (0, 4, .inl F)) = zh K I (m, pa, pb, pc, F, vs, tx, rd, ou) w := zhA_ne (K := K) (I := I) (A := (m, pa, pb, pc, vf, vs, tx, rd, ou)) (A' := (m, pa, pb, pc, F, vs, tx, rd, ou)) (w := w) (w' := w) (a := 80) (fun k hk hne => by simp only [zhA, zbeqF hne, cond_false]) (by decide)
theorem zu_81 {m pa pb pc vf vs tx rd ou F : Nat → Int32} : va_up (zh K I (m, pa, pb, pc, vf, vs, tx, rd, ou) w) 81 (.inl (0, 4, .inl F)) = zh K I (m, pa, pb, pc, vf, F, tx, rd, ou) w := zhA_ne (K := K) (I := I) (A := (m, pa, pb, pc, vf, vs, tx, rd, ou)) (A' := (m, pa, pb, pc, vf, F, tx, rd, ou)) (w := w) (w' := w) (a := 81) (fun k hk hne => by simp only [zhA, zbeqF hne, cond_false]) (by decide)
theorem zu_82 {m pa pb pc vf vs tx rd ou F : Nat → Int32} : va_up (zh K I (m, pa, pb, pc, vf, vs, tx, rd, ou) w) 82 (.inl (0, 120, .inl F)) = zh K I (m, pa, pb, pc, vf, vs, F, rd, ou) w := zhA_ne (K := K) (I := I) (A := (m, pa, pb, pc, vf, vs, tx, rd, ou)) (A' := (m, pa, pb, pc, vf, vs, F, rd, ou)) (w := w) (w' := w) (a := 82) (fun k hk hne => by simp only [zhA, zbeqF hne, cond_false]) (by decide)
theorem zu_83 {m pa pb pc vf vs tx rd ou F : Nat → Int32} : va_up (zh K I (m, pa, pb, pc, vf, vs, tx, rd, ou) w) 83 (.inl (0, 32, .inl F)) = zh K I (m, pa, pb, pc, vf, vs, tx, F, ou) w := zhA_ne (K := K) (I := I) (A := (m, pa, pb, pc, vf, vs, tx, rd, ou)) (A' := (m, pa, pb, pc, vf, vs, tx, F, ou)) (w := w) (w' := w) (a := 83) (fun k hk hne => by simp only [zhA, zbeqF hne, cond_false]) (by decide)
theorem zu_84 {m pa pb pc vf vs tx rd ou F : Nat → Int32} : va_up (zh K I (m, pa, pb, pc, vf, vs, tx, rd, ou) w) 84 (.inl (0, 600, .inl F)) = zh K I (m, pa, pb, pc, vf, vs, tx, rd, F) w := zhA_ne (K := K) (I := I) (A := (m, pa, pb, pc, vf, vs, tx, rd, ou)) (A' := (m, pa, pb, pc, vf, vs, tx, rd, F)) (w := w) (w' := w) (a := 84) (fun k hk hne => by simp only [zhA, zbeqF hne, cond_false]) (by decide)
theorem zu_85 {F : Nat → Int64} : va_up (zh K I A w) 85 (.inl (1, 1, .inr (.inl F))) = zh K I A F := zhA_ne (K := K) (I := I) (A := A) (A' := A) (w := w) (w' := F) (a := 85) (fun k hk hne => by simp only [zhA, zbeqF hne, cond_false]) (by decide)
theorem zu_69 {yc uc : Nat → Int32} {yl ul n dp dw : Nat} {df : Int32} {dx : Bool} {dc : Nat → Int64} : va_up (zh (P, T, (yc, yl), (uc, ul), (dc, dp, df, dw, dx)) I A w) 69 (.inr (5, [.ref 70, .int (Int32.ofNat n)])) = zh (P, T, (yc, n), (uc, ul), (dc, dp, df, dw, dx)) I A w := zhK_ne (I := I) (A := A) (w := w) (K := (P, T, (yc, yl), (uc, ul), (dc, dp, df, dw, dx))) (K' := (P, T, (yc, n), (uc, ul), (dc, dp, df, dw, dx))) (a := 69) (fun k hk hne => by simp only [zhK, zh1, zbeqF hne, cond_false]) (by decide)
theorem zu_70 {yc uc F : Nat → Int32} {yl ul dp dw : Nat} {df : Int32} {dx : Bool} {dc : Nat → Int64} : va_up (zh (P, T, (yc, yl), (uc, ul), (dc, dp, df, dw, dx)) I A w) 70 (.inl (0, 120, .inl F)) = zh (P, T, (F, yl), (uc, ul), (dc, dp, df, dw, dx)) I A w := zhK_ne (I := I) (A := A) (w := w) (K := (P, T, (yc, yl), (uc, ul), (dc, dp, df, dw, dx))) (K' := (P, T, (F, yl), (uc, ul), (dc, dp, df, dw, dx))) (a := 70) (fun k hk hne => by simp only [zhK, zh1, zbeqF hne, cond_false]) (by decide)
theorem zu_71 {yc uc : Nat → Int32} {yl ul n dp dw : Nat} {df : Int32} {dx : Bool} {dc : Nat → Int64} : va_up (zh (P, T, (yc, yl), (uc, ul), (dc, dp, df, dw, dx)) I A w) 71 (.inr (5, [.ref 72, .int (Int32.ofNat n)])) = zh (P, T, (yc, yl), (uc, n), (dc, dp, df, dw, dx)) I A w := zhK_ne (I := I) (A := A) (w := w) (K := (P, T, (yc, yl), (uc, ul), (dc, dp, df, dw, dx))) (K' := (P, T, (yc, yl), (uc, n), (dc, dp, df, dw, dx))) (a := 71) (fun k hk hne => by simp only [zhK, zh1, zbeqF hne, cond_false]) (by decide)
theorem zu_72 {yc uc F : Nat → Int32} {yl ul dp dw : Nat} {df : Int32} {dx : Bool} {dc : Nat → Int64} : va_up (zh (P, T, (yc, yl), (uc, ul), (dc, dp, df, dw, dx)) I A w) 72 (.inl (0, 561, .inl F)) = zh (P, T, (yc, yl), (F, ul), (dc, dp, df, dw, dx)) I A w := zhK_ne (I := I) (A := A) (w := w) (K := (P, T, (yc, yl), (uc, ul), (dc, dp, df, dw, dx))) (K' := (P, T, (yc, yl), (F, ul), (dc, dp, df, dw, dx))) (a := 72) (fun k hk hne => by simp only [zhK, zh1, zbeqF hne, cond_false]) (by decide)
theorem zu_73 {yc uc : Nat → Int32} {yl ul dp dw : Nat} {df : Int32} {dx : Bool} {dc : Nat → Int64} {dp1 dw1 : Nat} {df1 : Int32} {dx1 : Bool} : va_up (zh (P, T, (yc, yl), (uc, ul), (dc, dp, df, dw, dx)) I A w) 73 (.inr (3, [.ref 69, .ref 74, .int (Int32.ofNat dp1), .int df1, .int (Int32.ofNat dw1), .int (zbi dx1)])) = zh (P, T, (yc, yl), (uc, ul), (dc, dp1, df1, dw1, dx1)) I A w := zhK_ne (I := I) (A := A) (w := w) (K := (P, T, (yc, yl), (uc, ul), (dc, dp, df, dw, dx))) (K' := (P, T, (yc, yl), (uc, ul), (dc, dp1, df1, dw1, dx1))) (a := 73) (fun k hk hne => by simp only [zhK, zh1, zbeqF hne, cond_false]) (by decide)
theorem zu_74 {yc uc : Nat → Int32} {yl ul dp dw : Nat} {df : Int32} {dx : Bool} {dc G : Nat → Int64} : va_up (zh (P, T, (yc, yl), (uc, ul), (dc, dp, df, dw, dx)) I A w) 74 (.inl (1, 16, .inr (.inl G))) = zh (P, T, (yc, yl), (uc, ul), (G, dp, df, dw, dx)) I A w := zhK_ne (I := I) (A := A) (w := w) (K := (P, T, (yc, yl), (uc, ul), (dc, dp, df, dw, dx))) (K' := (P, T, (yc, yl), (uc, ul), (G, dp, df, dw, dx))) (a := 74) (fun k hk hne => by
  by_cases h9 : k < 69
  · simp only [zhK, zbltT h9, cond_true]
  · have h9 : k = 69 ∨ k = 70 ∨ k = 71 ∨ k = 72 ∨ k = 73 := by omega
    rcases h9 with h9 | h9 | h9 | h9 | h9 <;> subst h9 <;> rfl) (by decide)
theorem zhK_T {k i c : Nat} (hi : i < 6) (hc : c < 8) (hk : k = 21 + 8 * i + c) : zhK (P, T, y, u, d) k = zxc i (T i) c := by
  subst hk
  have e1 : (21 + 8 * i + c - 21) / 8 = i := by omega
  have e2 : (21 + 8 * i + c - 21) % 8 = c := by omega
  simp only [zhK, zbltF (show ¬ 21 + 8 * i + c < 4 by omega), zbltF (show ¬ 21 + 8 * i + c < 20 by omega), zbeqF (show 21 + 8 * i + c ≠ 20 by omega), zbltT (show 21 + 8 * i + c < 69 by omega), cond_false, cond_true, e1, e2]
theorem zh_T {i c : Nat} (hi : i < 6) (hc : c < 8) : zh (P, T, y, u, d) I A w (21 + 8 * i + c) = zxc i (T i) c := by
  simp only [zh, zbltT (show 21 + 8 * i + c < 75 by omega), cond_true]
  exact zhK_T hi hc rfl
theorem zh_T0 {i : Nat} (hi : i < 6) : zh (P, T, y, u, d) I A w (21 + 8 * i) = .inr (2, zxf i (T i)) := zh_T (c := 0) hi (by decide)
theorem zu_T {i c : Nat} {X : zX} (hi : i < 6) (hc : c < 8) (h : ∀ c', c' < 8 → c' ≠ c → zxc i (T i) c' = zxc i X c') : va_up (zh (P, T, y, u, d) I A w) (21 + 8 * i + c) (zxc i X c) = zh (P, va_up T i X, y, u, d) I A w := by
  have e : zxc i X c = zhK (P, va_up T i X, y, u, d) (21 + 8 * i + c) := by rw [zhK_T hi hc rfl, va_up_self]
  rw [e]
  refine zhK_ne (fun k hk hne => ?_) (by omega)
  by_cases h1 : 21 ≤ k ∧ k < 69
  · obtain ⟨i', c', hi', hc', rfl⟩ : ∃ i' c', i' < 6 ∧ c' < 8 ∧ k = 21 + 8 * i' + c' := ⟨(k - 21) / 8, (k - 21) % 8, by omega, by omega, by omega⟩
    rw [zhK_T hi' hc' rfl, zhK_T hi' hc' rfl]
    by_cases hii : i' = i
    · subst hii
      rw [va_up_self]
      exact h c' hc' (by omega)
    · rw [va_up_ne _ _ hii]
  · simp only [zhK]
    by_cases h4 : k < 4
    · simp only [zbltT h4, cond_true]
    · by_cases h20 : k < 20
      · simp only [zbltF h4, zbltT h20, cond_true, cond_false]
      · by_cases h21 : k = 20
        · subst h21; rfl
        · simp only [zbltF h4, zbltF h20, zbeqF h21, zbltF (show ¬ k < 69 by omega), cond_false]
theorem zhK_P {k j c : Nat} (h1 : 1 ≤ j) (h4 : j ≤ 4) (hc : c < 4) (hk : k = 4 * j + c) : zhK (P, T, y, u, d) k = zpc j (P j) c := by
  subst hk
  have e1 : (4 * j + c) / 4 = j := by omega
  have e2 : (4 * j + c) % 4 = c := by omega
  simp only [zhK, zbltF (show ¬ 4 * j + c < 4 by omega), zbltT (show 4 * j + c < 20 by omega), cond_false, cond_true, e1, e2]
theorem zh_P {j c : Nat} (h1 : 1 ≤ j) (h4 : j ≤ 4) (hc : c < 4) : zh (P, T, y, u, d) I A w (4 * j + c) = zpc j (P j) c := by
  simp only [zh, zbltT (show 4 * j + c < 75 by omega), cond_true]
  exact zhK_P h1 h4 hc rfl
theorem zh_P0 {j : Nat} (h1 : 1 ≤ j) (h4 : j ≤ 4) : zh (P, T, y, u, d) I A w (4 * j) = .inr (4, zpf j) := zh_P (c := 0) h1 h4 (by decide)
theorem zu_P {j c : Nat} {X : (Nat → Int32) × (Nat → Int32) × (Nat → Int32)} (h1 : 1 ≤ j) (h4 : j ≤ 4) (hc : c < 4) (h : ∀ c', c' < 4 → c' ≠ c → zpc j (P j) c' = zpc j X c') : va_up (zh (P, T, y, u, d) I A w) (4 * j + c) (zpc j X c) = zh (va_up P j X, T, y, u, d) I A w := by
  have e : zpc j X c = zhK (va_up P j X, T, y, u, d) (4 * j + c) := by rw [zhK_P h1 h4 hc rfl, va_up_self]
  rw [e]
  refine zhK_ne (fun k hk hne => ?_) (by omega)
  by_cases h5 : 4 ≤ k ∧ k < 20
  · obtain ⟨j', c', hj1, hj2, hc', rfl⟩ : ∃ j' c', 1 ≤ j' ∧ j' ≤ 4 ∧ c' < 4 ∧ k = 4 * j' + c' := ⟨k / 4, k % 4, by omega, by omega, by omega, by omega⟩
    rw [zhK_P hj1 hj2 hc' rfl, zhK_P hj1 hj2 hc' rfl]
    by_cases hii : j' = j
    · subst hii
      rw [va_up_self]
      exact h c' hc' (by omega)
    · rw [va_up_ne _ _ hii]
  · simp only [zhK]
    by_cases h4 : k < 4
    · simp only [zbltT h4, cond_true]
    · simp only [zbltF h4, zbltF (show ¬ k < 20 by omega), cond_false]
theorem zu_M0 {i r hg wd ct r1 hg1 wd1 ct1 : Nat} {e o ln fa : Nat → Int64} {kd tg sr : Nat → Int32} (hi : i < 6) : va_up (zh (P, va_up T i (r, hg, wd, ct, e, o, ln, kd, tg, sr, fa), y, u, d) I A w) (21 + 8 * i) (.inr (2, zxf i (r1, hg1, wd1, ct1, e, o, ln, kd, tg, sr, fa))) = zh (P, va_up T i (r1, hg1, wd1, ct1, e, o, ln, kd, tg, sr, fa), y, u, d) I A w := by
  have h := zu_T (P := P) (T := va_up T i (r, hg, wd, ct, e, o, ln, kd, tg, sr, fa)) (y := y) (u := u) (d := d) (I := I) (A := A) (w := w) (i := i) (c := 0) (X := (r1, hg1, wd1, ct1, e, o, ln, kd, tg, sr, fa)) hi (by decide) (fun c' h1 h2 => by
    rw [va_up_self]
    rcases c' with _ | _ | _ | _ | _ | _ | _ | _ | c' <;> first | rfl | exact absurd rfl h2 | omega)
  rw [va_up_up] at h
  exact h
theorem zu_M1 {i r hg wd ct : Nat} {e o ln fa G : Nat → Int64} {kd tg sr : Nat → Int32} (hi : i < 6) : va_up (zh (P, va_up T i (r, hg, wd, ct, e, o, ln, kd, tg, sr, fa), y, u, d) I A w) (21 + 8 * i + 1) (.inl (1, 16, .inr (.inl G))) = zh (P, va_up T i (r, hg, wd, ct, G, o, ln, kd, tg, sr, fa), y, u, d) I A w := by
  have h := zu_T (P := P) (T := va_up T i (r, hg, wd, ct, e, o, ln, kd, tg, sr, fa)) (y := y) (u := u) (d := d) (I := I) (A := A) (w := w) (i := i) (c := 1) (X := (r, hg, wd, ct, G, o, ln, kd, tg, sr, fa)) hi (by decide) (fun c' h1 h2 => by
    rw [va_up_self]
    rcases c' with _ | _ | _ | _ | _ | _ | _ | _ | c' <;> first | rfl | exact absurd rfl h2 | omega)
  rw [va_up_up] at h
  exact h
theorem zu_M2 {i r hg wd ct : Nat} {e o ln fa G : Nat → Int64} {kd tg sr : Nat → Int32} (hi : i < 6) : va_up (zh (P, va_up T i (r, hg, wd, ct, e, o, ln, kd, tg, sr, fa), y, u, d) I A w) (21 + 8 * i + 2) (.inl (1, 16, .inr (.inl G))) = zh (P, va_up T i (r, hg, wd, ct, e, G, ln, kd, tg, sr, fa), y, u, d) I A w := by
  have h := zu_T (P := P) (T := va_up T i (r, hg, wd, ct, e, o, ln, kd, tg, sr, fa)) (y := y) (u := u) (d := d) (I := I) (A := A) (w := w) (i := i) (c := 2) (X := (r, hg, wd, ct, e, G, ln, kd, tg, sr, fa)) hi (by decide) (fun c' h1 h2 => by
    rw [va_up_self]
    rcases c' with _ | _ | _ | _ | _ | _ | _ | _ | c' <;> first | rfl | exact absurd rfl h2 | omega)
  rw [va_up_up] at h
  exact h
theorem zu_M3 {i r hg wd ct : Nat} {e o ln fa G : Nat → Int64} {kd tg sr : Nat → Int32} (hi : i < 6) : va_up (zh (P, va_up T i (r, hg, wd, ct, e, o, ln, kd, tg, sr, fa), y, u, d) I A w) (21 + 8 * i + 3) (.inl (1, 4, .inr (.inl G))) = zh (P, va_up T i (r, hg, wd, ct, e, o, G, kd, tg, sr, fa), y, u, d) I A w := by
  have h := zu_T (P := P) (T := va_up T i (r, hg, wd, ct, e, o, ln, kd, tg, sr, fa)) (y := y) (u := u) (d := d) (I := I) (A := A) (w := w) (i := i) (c := 3) (X := (r, hg, wd, ct, e, o, G, kd, tg, sr, fa)) hi (by decide) (fun c' h1 h2 => by
    rw [va_up_self]
    rcases c' with _ | _ | _ | _ | _ | _ | _ | _ | c' <;> first | rfl | exact absurd rfl h2 | omega)
  rw [va_up_up] at h
  exact h
theorem zu_M4 {i r hg wd ct : Nat} {e o ln fa : Nat → Int64} {kd tg sr F : Nat → Int32} (hi : i < 6) : va_up (zh (P, va_up T i (r, hg, wd, ct, e, o, ln, kd, tg, sr, fa), y, u, d) I A w) (21 + 8 * i + 4) (.inl (0, 200, .inl F)) = zh (P, va_up T i (r, hg, wd, ct, e, o, ln, F, tg, sr, fa), y, u, d) I A w := by
  have h := zu_T (P := P) (T := va_up T i (r, hg, wd, ct, e, o, ln, kd, tg, sr, fa)) (y := y) (u := u) (d := d) (I := I) (A := A) (w := w) (i := i) (c := 4) (X := (r, hg, wd, ct, e, o, ln, F, tg, sr, fa)) hi (by decide) (fun c' h1 h2 => by
    rw [va_up_self]
    rcases c' with _ | _ | _ | _ | _ | _ | _ | _ | c' <;> first | rfl | exact absurd rfl h2 | omega)
  rw [va_up_up] at h
  exact h
theorem zu_M5 {i r hg wd ct : Nat} {e o ln fa : Nat → Int64} {kd tg sr F : Nat → Int32} (hi : i < 6) : va_up (zh (P, va_up T i (r, hg, wd, ct, e, o, ln, kd, tg, sr, fa), y, u, d) I A w) (21 + 8 * i + 5) (.inl (0, 200, .inl F)) = zh (P, va_up T i (r, hg, wd, ct, e, o, ln, kd, F, sr, fa), y, u, d) I A w := by
  have h := zu_T (P := P) (T := va_up T i (r, hg, wd, ct, e, o, ln, kd, tg, sr, fa)) (y := y) (u := u) (d := d) (I := I) (A := A) (w := w) (i := i) (c := 5) (X := (r, hg, wd, ct, e, o, ln, kd, F, sr, fa)) hi (by decide) (fun c' h1 h2 => by
    rw [va_up_self]
    rcases c' with _ | _ | _ | _ | _ | _ | _ | _ | c' <;> first | rfl | exact absurd rfl h2 | omega)
  rw [va_up_up] at h
  exact h
theorem zu_M6 {i r hg wd ct : Nat} {e o ln fa : Nat → Int64} {kd tg sr F : Nat → Int32} (hi : i < 6) : va_up (zh (P, va_up T i (r, hg, wd, ct, e, o, ln, kd, tg, sr, fa), y, u, d) I A w) (21 + 8 * i + 6) (.inl (0, 200, .inl F)) = zh (P, va_up T i (r, hg, wd, ct, e, o, ln, kd, tg, F, fa), y, u, d) I A w := by
  have h := zu_T (P := P) (T := va_up T i (r, hg, wd, ct, e, o, ln, kd, tg, sr, fa)) (y := y) (u := u) (d := d) (I := I) (A := A) (w := w) (i := i) (c := 6) (X := (r, hg, wd, ct, e, o, ln, kd, tg, F, fa)) hi (by decide) (fun c' h1 h2 => by
    rw [va_up_self]
    rcases c' with _ | _ | _ | _ | _ | _ | _ | _ | c' <;> first | rfl | exact absurd rfl h2 | omega)
  rw [va_up_up] at h
  exact h
theorem zu_M7 {i r hg wd ct : Nat} {e o ln fa G : Nat → Int64} {kd tg sr : Nat → Int32} (hi : i < 6) : va_up (zh (P, va_up T i (r, hg, wd, ct, e, o, ln, kd, tg, sr, fa), y, u, d) I A w) (21 + 8 * i + 7) (.inl (1, 200, .inr (.inl G))) = zh (P, va_up T i (r, hg, wd, ct, e, o, ln, kd, tg, sr, G), y, u, d) I A w := by
  have h := zu_T (P := P) (T := va_up T i (r, hg, wd, ct, e, o, ln, kd, tg, sr, fa)) (y := y) (u := u) (d := d) (I := I) (A := A) (w := w) (i := i) (c := 7) (X := (r, hg, wd, ct, e, o, ln, kd, tg, sr, G)) hi (by decide) (fun c' h1 h2 => by
    rw [va_up_self]
    rcases c' with _ | _ | _ | _ | _ | _ | _ | _ | c' <;> first | rfl | exact absurd rfl h2 | omega)
  rw [va_up_up] at h
  exact h
theorem zu_P1 {j : Nat} {pl pr pt F : Nat → Int32} (h1 : 1 ≤ j) (h4 : j ≤ 4) : va_up (zh (va_up P j (pl, pr, pt), T, y, u, d) I A w) (4 * j + 1) (.inl (0, 8, .inl F)) = zh (va_up P j (F, pr, pt), T, y, u, d) I A w := by
  have h := zu_P (P := va_up P j (pl, pr, pt)) (T := T) (y := y) (u := u) (d := d) (I := I) (A := A) (w := w) (j := j) (c := 1) (X := (F, pr, pt)) h1 h4 (by decide) (fun c' h1 h2 => by
    rw [va_up_self]
    rcases c' with _ | _ | _ | _ | c' <;> first | rfl | exact absurd rfl h2 | omega)
  rw [va_up_up] at h
  exact h
theorem zu_P2 {j : Nat} {pl pr pt F : Nat → Int32} (h1 : 1 ≤ j) (h4 : j ≤ 4) : va_up (zh (va_up P j (pl, pr, pt), T, y, u, d) I A w) (4 * j + 2) (.inl (0, 8, .inl F)) = zh (va_up P j (pl, F, pt), T, y, u, d) I A w := by
  have h := zu_P (P := va_up P j (pl, pr, pt)) (T := T) (y := y) (u := u) (d := d) (I := I) (A := A) (w := w) (j := j) (c := 2) (X := (pl, F, pt)) h1 h4 (by decide) (fun c' h1 h2 => by
    rw [va_up_self]
    rcases c' with _ | _ | _ | _ | c' <;> first | rfl | exact absurd rfl h2 | omega)
  rw [va_up_up] at h
  exact h
theorem zu_P3 {j : Nat} {pl pr pt F : Nat → Int32} (h1 : 1 ≤ j) (h4 : j ≤ 4) : va_up (zh (va_up P j (pl, pr, pt), T, y, u, d) I A w) (4 * j + 3) (.inl (0, 8, .inl F)) = zh (va_up P j (pl, pr, F), T, y, u, d) I A w := by
  have h := zu_P (P := va_up P j (pl, pr, pt)) (T := T) (y := y) (u := u) (d := d) (I := I) (A := A) (w := w) (j := j) (c := 3) (X := (pl, pr, F)) h1 h4 (by decide) (fun c' h1 h2 => by
    rw [va_up_self]
    rcases c' with _ | _ | _ | _ | c' <;> first | rfl | exact absurd rfl h2 | omega)
  rw [va_up_up] at h
  exact h
end ZH
