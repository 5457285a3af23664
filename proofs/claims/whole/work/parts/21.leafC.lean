/-! the class's small methods -/
def zfi (x : Int64) : Int32 := (x >>> 32).toInt32
def zse (x : Int64) : Int32 := x.toInt32
def ze64 (a b : Int64) : Int64 := (a <<< 32) ||| (b &&& 4294967295)
def zprt (x : Int32) : Bool := decide (x = 0) || decide (x = 1)
def zpo (e : Int64) (x : Int32) : Int32 := bif decide (x = 0) then zfi e else zse e
def zkd (k : Nat) (c : Bool) : Nat := bif c then k + 3 else k
def zXb (X : zX) : Prop := X.2.1 ≤ 4 ∧ X.2.2.1 ≤ 4 ∧ X.2.2.2.1 ≤ 200
def zTb (T : Nat → zX) : Prop := ∀ i, zXb (T i)
def zfil (T : Nat → zX) (x : Int32) : Prop := ¬ (T x.toNatClampNeg).2.1 = 0
def zcell (X : zX) (x y : Int32) : Bool := (decide (0 ≤ x) && decide (x < Int32.ofNat X.2.1)) && (decide (0 ≤ y) && decide (y < Int32.ofNat X.2.2.1))
def zxat (X : zX) (x y : Int32) : Int64 := bif zcell X x y then X.2.2.2.2.1 (x.toNatClampNeg * 4 + y.toNatClampNeg) else 0
def zxal (X : zX) (c : Bool) (x k : Int32) : Int64 := bif c then zxat X k x else zxat X x k
def zlns (X : zX) (c : Bool) : Nat := bif c then X.2.2.1 else X.2.1
def zisl (X : zX) (c : Bool) (x : Int32) : Bool := decide (0 ≤ x) && decide (x < Int32.ofNat (zlns X c))
def zcda (yc : Nat → Int32) (yl : Nat) (x : Int32) (cap : Nat) : Int32 := bif (decide (0 ≤ x) && decide (x < Int32.ofNat yl)) && decide (x < Int32.ofNat cap) then yc x.toNatClampNeg else -1
def zmax (x y : Int32) : Int32 := bif decide (x < y) then y else x
def zabs (x : Int32) : Int32 := bif decide (0 ≤ x) then x else -x
def zfdl (x y : Int64) : Int64 := bif decide (x ^^^ y < 0) && !decide (x / y * y = x) then x / y - 1 else x / y
def zfdi (x y : Int32) : Int32 := bif decide (x ^^^ y < 0) && !decide (x / y * y = x) then x / y - 1 else x / y
def zir1 (a b : Int64) : Bool := zin a (-30000) 30000 && zin b (-30000) 30000
def zir0 (a b : Int64) : Bool := zin a (-1000000000) 1000000000 && decide (b = 0)
theorem zI_nlt {x y : Int32} : (¬ x < y) ↔ y ≤ x := by rw [Int32.lt_iff_toInt_lt, Int32.le_iff_toInt_le]; omega
theorem zI_nle {x y : Int32} : (¬ x ≤ y) ↔ y < x := by rw [Int32.lt_iff_toInt_lt, Int32.le_iff_toInt_le]; omega
theorem zL_nlt {x y : Int64} : (¬ x < y) ↔ y ≤ x := by rw [Int64.lt_iff_toInt_lt, Int64.le_iff_toInt_le]; omega
theorem zL_nle {x y : Int64} : (¬ x ≤ y) ↔ y < x := by rw [Int64.lt_iff_toInt_lt, Int64.le_iff_toInt_le]; omega
theorem z0le {x : Int32} (h : ¬ x < 0) : (0 : Int32) ≤ x := by rw [Int32.lt_iff_toInt_lt] at h; rw [Int32.le_iff_toInt_le]; omega
theorem zcell_r {X : zX} {x y : Int32} (c : zcell X x y = true) : ∃ k, k < 2147483648 ∧ x = Int32.ofNat k := by
  simp only [zcell, Bool.and_eq_true, decide_eq_true_eq] at c
  exact zNn' c.1.1
theorem zcell_c {X : zX} {x y : Int32} (c : zcell X x y = true) : ∃ k, k < 2147483648 ∧ y = Int32.ofNat k := by
  simp only [zcell, Bool.and_eq_true, decide_eq_true_eq] at c
  exact zNn' c.2.1
theorem zisl_n {X : zX} {b : Bool} {x : Int32} (c : zisl X b x = true) : ∃ k, k < 2147483648 ∧ x = Int32.ofNat k := by
  simp only [zisl, Bool.and_eq_true, decide_eq_true_eq] at c
  exact zNn' c.1
theorem zcell_N {X : zX} (hX : zXb X) {a b : Nat} (ha : a < 2147483648) (hb : b < 2147483648) : zcell X (Int32.ofNat a) (Int32.ofNat b) = (decide (a < X.2.1) && decide (b < X.2.2.1)) := by
  obtain ⟨h1, h2, -⟩ := hX
  have e1 := zcN_lt (x := Int32.ofNat a) (y := Int32.ofNat X.2.1) rfl rfl ha (by omega)
  have e2 := zcN_lt (x := Int32.ofNat b) (y := Int32.ofNat X.2.2.1) rfl rfl hb (by omega)
  have e3 := zcN_ge (x := Int32.ofNat a) (y := Int32.ofNat 0) rfl rfl ha (by omega)
  have e4 := zcN_ge (x := Int32.ofNat b) (y := Int32.ofNat 0) rfl rfl hb (by omega)
  simp only [zcmp] at e1 e2 e3 e4
  unfold zcell
  rw [e1, e2, show decide ((0 : Int32) ≤ Int32.ofNat a) = true from e3.trans (decide_eq_true (Nat.zero_le a)), show decide ((0 : Int32) ≤ Int32.ofNat b) = true from e4.trans (decide_eq_true (Nat.zero_le b)), Bool.true_and, Bool.true_and]
theorem zxat_N {X : zX} (hX : zXb X) {a b : Nat} (ha : a < 2147483648) (hb : b < 2147483648) : zxat X (Int32.ofNat a) (Int32.ofNat b) = if a < X.2.1 ∧ b < X.2.2.1 then X.2.2.2.2.1 (a * 4 + b) else 0 := by
  unfold zxat
  rw [zcell_N hX ha hb, zN_cl ha (Nat.le_refl _), zN_cl hb (Nat.le_refl _)]
  by_cases h : a < X.2.1 ∧ b < X.2.2.1
  · rw [if_pos h, decide_eq_true h.1, decide_eq_true h.2]; rfl
  · rw [if_neg h]
    have e : (decide (a < X.2.1) && decide (b < X.2.2.1)) = false := by
      rw [Bool.and_eq_false_iff, decide_eq_false_iff_not, decide_eq_false_iff_not]; omega
    rw [e]; rfl
theorem zcell_sm {X : zX} (hX : zXb X) {a b : Nat} (ha : a < 2147483648) (hb : b < 2147483648) (c : zcell X (Int32.ofNat a) (Int32.ofNat b) = true) : a < X.2.1 ∧ b < X.2.2.1 ∧ a < 4 ∧ b < 4 := by
  rw [zcell_N hX ha hb, Bool.and_eq_true, decide_eq_true_eq, decide_eq_true_eq] at c
  obtain ⟨h1, h2, -⟩ := hX
  omega
theorem b75 {P : zPt} {T : Nat → zX} {Y : zYt} {I : zIt} {A : zAt} {w : Nat → Int64} {p : Nat × Nat} {Q : zR → zH → Prop} {a0 : Int64} (H : Q (.inl (some (.int ((a0 >>> ((32 : Int32).toInt64 &&& 63)).toInt32)))) (zh (P, T, Y) I A w)) : zT zm_75 [.long a0] p (zh (P, T, Y) I A w) Q := by
  change zW zm_75 0 [some (.long a0), none] [] p _ Q
  refine zW_gh 5 [some (.long a0), none] [.int ((a0 >>> ((32 : Int32).toInt64 &&& 63)).toInt32)] 4 (fun f => rfl) ?_
  exact zW_rh (some (.int ((a0 >>> ((32 : Int32).toInt64 &&& 63)).toInt32))) 1 (fun f => rfl) H
theorem s75 {P : zPt} {T : Nat → zX} {Y : zYt} {I : zIt} {A : zAt} {w : Nat → Int64} {p : Nat × Nat} {Q : zR → zH → Prop} {a : Int64} (H : Q (.inl (some (.int (zfi a)))) (zh (P, T, Y) I A w)) : zT zm_75 [.long a] p (zh (P, T, Y) I A w) Q := b75 H
theorem b78 {P : zPt} {T : Nat → zX} {Y : zYt} {I : zIt} {A : zAt} {w : Nat → Int64} {p : Nat × Nat} {Q : zR → zH → Prop} {a0 : Int64} (H : Q (.inl (some (.int (a0.toInt32)))) (zh (P, T, Y) I A w)) : zT zm_78 [.long a0] p (zh (P, T, Y) I A w) Q := by
  change zW zm_78 0 [some (.long a0), none] [] p _ Q
  refine zW_gh 2 [some (.long a0), none] [.int (a0.toInt32)] 2 (fun f => rfl) ?_
  exact zW_rh (some (.int (a0.toInt32))) 1 (fun f => rfl) H
theorem s78 {P : zPt} {T : Nat → zX} {Y : zYt} {I : zIt} {A : zAt} {w : Nat → Int64} {p : Nat × Nat} {Q : zR → zH → Prop} {a : Int64} (H : Q (.inl (some (.int (zse a)))) (zh (P, T, Y) I A w)) : zT zm_78 [.long a] p (zh (P, T, Y) I A w) Q := b78 H
theorem b76 {P : zPt} {T : Nat → zX} {Y : zYt} {I : zIt} {A : zAt} {w : Nat → Int64} {p : Nat × Nat} {Q : zR → zH → Prop} {a0 a1 : Int64} (H : Q (.inl (some (.long ((a0 <<< ((32 : Int32).toInt64 &&& 63)) ||| (a1 &&& (4294967295 : Int64)))))) (zh (P, T, Y) I A w)) : zT zm_76 [.long a0, .long a1] p (zh (P, T, Y) I A w) Q := by
  change zW zm_76 0 [some (.long a0), none, some (.long a1), none] [] p _ Q
  refine zW_gh 10 [some (.long a0), none, some (.long a1), none] [.long ((a0 <<< ((32 : Int32).toInt64 &&& 63)) ||| (a1 &&& (4294967295 : Int64)))] 7 (fun f => rfl) ?_
  exact zW_rh (some (.long ((a0 <<< ((32 : Int32).toInt64 &&& 63)) ||| (a1 &&& (4294967295 : Int64))))) 1 (fun f => rfl) H
theorem s76 {P : zPt} {T : Nat → zX} {Y : zYt} {I : zIt} {A : zAt} {w : Nat → Int64} {p : Nat × Nat} {Q : zR → zH → Prop} {a b : Int64} (H : Q (.inl (some (.long (ze64 a b)))) (zh (P, T, Y) I A w)) : zT zm_76 [.long a, .long b] p (zh (P, T, Y) I A w) Q := b76 H
theorem b97 {P : zPt} {T : Nat → zX} {Y : zYt} {I : zIt} {A : zAt} {w : Nat → Int64} {p : Nat × Nat} {Q : zR → zH → Prop} {a0 : Bool} (H : ((a0 = true → Q (.inl none) (zh (P, T, Y) I A w)) ∧ (a0 = false → Q (.inr 2) (zh (P, T, Y) I A w)))) : zT zm_97 [.int (zbi a0)] p (zh (P, T, Y) I A w) Q := by
  change zW zm_97 0 [some (.int (zbi a0))] [] p _ Q
  refine zW_bh (zcmp .ne (zbi a0) (0 : Int32)) 15 4 [some (.int (zbi a0))] [] 2 (fun f => rfl) (fun c => ?_) (fun c => ?_)
  · have c9 : a0 = true := ((zcB_ne _).symm.trans c)
    replace H := H.1 c9
    exact zW_rh none 1 (fun f => rfl) H
  · have c9 : a0 = false := ((zcB_ne _).symm.trans c)
    replace H := H.2 c9
    exact zW_th 2 1 (fun f => rfl) H
theorem s97 {P : zPt} {T : Nat → zX} {Y : zYt} {I : zIt} {A : zAt} {w : Nat → Int64} {p : Nat × Nat} {Q : zR → zH → Prop} {b : Bool} (H : (b = true → Q (.inl none) (zh (P, T, Y) I A w)) ∧ (b = false → Q (.inr 2) (zh (P, T, Y) I A w))) : zT zm_97 [.int (zbi b)] p (zh (P, T, Y) I A w) Q := b97 ⟨H.1, H.2⟩
theorem s97t {P : zPt} {T : Nat → zX} {Y : zYt} {I : zIt} {A : zAt} {w : Nat → Int64} {p : Nat × Nat} {Q : zR → zH → Prop} (H : Q (.inl none) (zh (P, T, Y) I A w)) : zT zm_97 [.int 1] p (zh (P, T, Y) I A w) Q := s97 (b := true) ⟨fun _ => H, fun h => by cases h⟩
theorem s97f {P : zPt} {T : Nat → zX} {Y : zYt} {I : zIt} {A : zAt} {w : Nat → Int64} {p : Nat × Nat} {Q : zR → zH → Prop} (H : Q (.inr 2) (zh (P, T, Y) I A w)) : zT zm_97 [.int 0] p (zh (P, T, Y) I A w) Q := s97 (b := false) ⟨fun h => (by cases h), fun _ => H⟩
theorem b100 {P : zPt} {T : Nat → zX} {Y : zYt} {I : zIt} {A : zAt} {w : Nat → Int64} {p : Nat × Nat} {Q : zR → zH → Prop} {a0 : Bool} (H : ((a0 = true → Q (.inl none) (zh (P, T, Y) I A w)) ∧ (a0 = false → Q (.inr 1) (zh (P, T, Y) I A w)))) : zT zm_100 [.int (zbi a0)] p (zh (P, T, Y) I A w) Q := by
  change zW zm_100 0 [some (.int (zbi a0))] [] p _ Q
  refine zW_bh (zcmp .ne (zbi a0) (0 : Int32)) 15 4 [some (.int (zbi a0))] [] 2 (fun f => rfl) (fun c => ?_) (fun c => ?_)
  · have c9 : a0 = true := ((zcB_ne _).symm.trans c)
    replace H := H.1 c9
    exact zW_rh none 1 (fun f => rfl) H
  · have c9 : a0 = false := ((zcB_ne _).symm.trans c)
    replace H := H.2 c9
    exact zW_th 1 1 (fun f => rfl) H
theorem s100 {P : zPt} {T : Nat → zX} {Y : zYt} {I : zIt} {A : zAt} {w : Nat → Int64} {p : Nat × Nat} {Q : zR → zH → Prop} {b : Bool} (H : (b = true → Q (.inl none) (zh (P, T, Y) I A w)) ∧ (b = false → Q (.inr 1) (zh (P, T, Y) I A w))) : zT zm_100 [.int (zbi b)] p (zh (P, T, Y) I A w) Q := b100 ⟨H.1, H.2⟩
theorem s100t {P : zPt} {T : Nat → zX} {Y : zYt} {I : zIt} {A : zAt} {w : Nat → Int64} {p : Nat × Nat} {Q : zR → zH → Prop} (H : Q (.inl none) (zh (P, T, Y) I A w)) : zT zm_100 [.int 1] p (zh (P, T, Y) I A w) Q := s100 (b := true) ⟨fun _ => H, fun h => by cases h⟩
theorem s100f {P : zPt} {T : Nat → zX} {Y : zYt} {I : zIt} {A : zAt} {w : Nat → Int64} {p : Nat × Nat} {Q : zR → zH → Prop} (H : Q (.inr 1) (zh (P, T, Y) I A w)) : zT zm_100 [.int 0] p (zh (P, T, Y) I A w) Q := s100 (b := false) ⟨fun h => (by cases h), fun _ => H⟩
theorem b108 {P : zPt} {T : Nat → zX} {Y : zYt} {I : zIt} {A : zAt} {w : Nat → Int64} {p : Nat × Nat} {Q : zR → zH → Prop} {a0 : Int32} (H : ((a0 = (0 : Int32) → Q (.inl (some (.int (1 : Int32)))) (zh (P, T, Y) I A w)) ∧ (¬ a0 = (0 : Int32) → ((¬ a0 = (1 : Int32) → Q (.inl (some (.int (0 : Int32)))) (zh (P, T, Y) I A w)) ∧ (a0 = (1 : Int32) → Q (.inl (some (.int (1 : Int32)))) (zh (P, T, Y) I A w)))))) : zT zm_108 [.int a0] p (zh (P, T, Y) I A w) Q := by
  change zW zm_108 0 [some (.int a0)] [] p _ Q
  refine zW_bh (zcmp .eq a0 (0 : Int32)) 9 4 [some (.int a0)] [] 2 (fun f => rfl) (fun c => ?_) (fun c => ?_)
  · have c9 : a0 = (0 : Int32) := (of_decide_eq_true c)
    replace H := H.1 c9
    refine zW_gh 14 [some (.int a0)] [.int (1 : Int32)] 2 (fun f => rfl) ?_
    exact zW_rh (some (.int (1 : Int32))) 1 (fun f => rfl) H
  · have c9 : ¬ a0 = (0 : Int32) := (of_decide_eq_false c)
    replace H := H.2 c9
    refine zW_bh (zcmp .ne a0 (1 : Int32)) 13 9 [some (.int a0)] [] 3 (fun f => rfl) (fun c => ?_) (fun c => ?_)
    · have c9 : ¬ a0 = (1 : Int32) := (by simpa [zcmp] using c)
      replace H := H.1 c9
      refine zW_gh 14 [some (.int a0)] [.int (0 : Int32)] 1 (fun f => rfl) ?_
      exact zW_rh (some (.int (0 : Int32))) 1 (fun f => rfl) H
    · have c9 : a0 = (1 : Int32) := (by simpa [zcmp] using c)
      replace H := H.2 c9
      refine zW_gh 14 [some (.int a0)] [.int (1 : Int32)] 2 (fun f => rfl) ?_
      exact zW_rh (some (.int (1 : Int32))) 1 (fun f => rfl) H
theorem s108 {P : zPt} {T : Nat → zX} {Y : zYt} {I : zIt} {A : zAt} {w : Nat → Int64} {p : Nat × Nat} {Q : zR → zH → Prop} {a : Int32} (H : Q (.inl (some (.int (zbi (zprt a))))) (zh (P, T, Y) I A w)) : zT zm_108 [.int a] p (zh (P, T, Y) I A w) Q := by
  refine b108 ?_
  repeat' first | (refine ⟨?_, ?_⟩) | (intro _)
  all_goals first | exact zQt (by simp_all [zprt]; done) H | exact zQf (by simp_all [zprt]; done) H
theorem b109 {P : zPt} {T : Nat → zX} {Y : zYt} {I : zIt} {A : zAt} {w : Nat → Int64} {p : Nat × Nat} {Q : zR → zH → Prop} {a1 : Int32} {a0 : Int64} (H : ((¬ a1 = (0 : Int32) → Q (.inl (some (.int (zse a0)))) (zh (P, T, Y) I A w)) ∧ (a1 = (0 : Int32) → Q (.inl (some (.int (zfi a0)))) (zh (P, T, Y) I A w)))) : zT zm_109 [.long a0, .int a1] p (zh (P, T, Y) I A w) Q := by
  change zW zm_109 0 [some (.long a0), none, some (.int a1)] [] p _ Q
  refine zW_bh (zcmp .ne a1 (0 : Int32)) 11 4 [some (.long a0), none, some (.int a1)] [] 2 (fun f => rfl) (fun c => ?_) (fun c => ?_)
  · have c9 : ¬ a1 = (0 : Int32) := (by simpa [zcmp] using c)
    replace H := H.1 c9
    refine zW_gh 12 [some (.long a0), none, some (.int a1)] [.long a0] 1 (fun f => rfl) ?_
    refine zW_cl rfl rfl rfl rfl rfl (s78 ?_)
    change zW zm_109 15 [some (.long a0), none, some (.int a1)] [.int (zse a0)] p _ Q
    exact zW_rh (some (.int (zse a0))) 1 (fun f => rfl) H
  · have c9 : a1 = (0 : Int32) := (by simpa [zcmp] using c)
    replace H := H.2 c9
    refine zW_gh 5 [some (.long a0), none, some (.int a1)] [.long a0] 1 (fun f => rfl) ?_
    refine zW_cl rfl rfl rfl rfl rfl (s75 ?_)
    change zW zm_109 8 [some (.long a0), none, some (.int a1)] [.int (zfi a0)] p _ Q
    refine zW_gh 15 [some (.long a0), none, some (.int a1)] [.int (zfi a0)] 1 (fun f => rfl) ?_
    exact zW_rh (some (.int (zfi a0))) 1 (fun f => rfl) H
theorem s109 {P : zPt} {T : Nat → zX} {Y : zYt} {I : zIt} {A : zAt} {w : Nat → Int64} {p : Nat × Nat} {Q : zR → zH → Prop} {e : Int64} {a : Int32} (H : Q (.inl (some (.int (zpo e a)))) (zh (P, T, Y) I A w)) : zT zm_109 [.long e, .int a] p (zh (P, T, Y) I A w) Q := by
  refine b109 ⟨fun h => ?_, fun h => ?_⟩
  · simpa only [zpo, decide_eq_false h, cond_false] using H
  · simpa only [zpo, decide_eq_true h, cond_true] using H
theorem b111 {P : zPt} {T : Nat → zX} {Y : zYt} {I : zIt} {A : zAt} {w : Nat → Int64} {p : Nat × Nat} {Q : zR → zH → Prop} {a0 : Nat} {a1 : Bool} (H : ((a1 = false → Q (.inl (some (.int (Int32.ofNat a0)))) (zh (P, T, Y) I A w)) ∧ (a1 = true → Q (.inl (some (.int ((Int32.ofNat a0) + (3 : Int32))))) (zh (P, T, Y) I A w)))) : zT zm_111 [.int (Int32.ofNat a0), .int (zbi a1)] p (zh (P, T, Y) I A w) Q := by
  change zW zm_111 0 [some (.int (Int32.ofNat a0)), some (.int (zbi a1))] [] p _ Q
  refine zW_bh (zcmp .eq (zbi a1) (0 : Int32)) 10 4 [some (.int (Int32.ofNat a0)), some (.int (zbi a1))] [] 2 (fun f => rfl) (fun c => ?_) (fun c => ?_)
  · have c9 : a1 = false := ((Bool.not_eq_true' _).mp ((zcB_eq _).symm.trans c))
    replace H := H.1 c9
    refine zW_gh 11 [some (.int (Int32.ofNat a0)), some (.int (zbi a1))] [.int (Int32.ofNat a0)] 1 (fun f => rfl) ?_
    exact zW_rh (some (.int (Int32.ofNat a0))) 1 (fun f => rfl) H
  · have c9 : a1 = true := ((Bool.not_eq_false' _).mp ((zcB_eq _).symm.trans c))
    replace H := H.2 c9
    refine zW_gh 11 [some (.int (Int32.ofNat a0)), some (.int (zbi a1))] [.int ((Int32.ofNat a0) + (3 : Int32))] 4 (fun f => rfl) ?_
    exact zW_rh (some (.int ((Int32.ofNat a0) + (3 : Int32)))) 1 (fun f => rfl) H
theorem s111 {P : zPt} {T : Nat → zX} {Y : zYt} {I : zIt} {A : zAt} {w : Nat → Int64} {p : Nat × Nat} {Q : zR → zH → Prop} {x : Int32} {k : Nat} {c : Bool} (hx : x = Int32.ofNat k) (H : Q (.inl (some (.int (Int32.ofNat (zkd k c))))) (zh (P, T, Y) I A w)) : zT zm_111 [.int x, .int (zbi c)] p (zh (P, T, Y) I A w) Q := by
  subst hx
  refine b111 ⟨fun h => ?_, fun h => ?_⟩
  · subst h; exact H
  · subst h
    rw [show Int32.ofNat k + 3 = Int32.ofNat (k + 3) from zN_a rfl rfl]
    exact H
theorem b27 {P : zPt} {T : Nat → zX} {Y : zYt} {I : zIt} {A : zAt} {w : Nat → Int64} {p : Nat × Nat} {Q : zR → zH → Prop} {i : Nat} (hi_i : i < 6) (H : ((T i).2.1 < 2147483648 ∧ ((¬ (T i).2.1 = 0 → Q (.inl (some (.int (0 : Int32)))) (zh (P, T, Y) I A w)) ∧ ((T i).2.1 = 0 → Q (.inl (some (.int (1 : Int32)))) (zh (P, T, Y) I A w))))) : zT zm_27 [.ref (21 + 8 * i)] p (zh (P, T, Y) I A w) Q := by
  change zW zm_27 0 [some (.ref (21 + 8 * i))] [] p _ Q
  refine zW_gh 1 [some (.ref (21 + 8 * i))] [.ref (21 + 8 * i)] 1 (fun f => rfl) ?_
  refine zW_gf rfl (by have := hi_i; omega) (zh_T0 hi_i) rfl (v := .int (Int32.ofNat ((T i).2.1))) rfl ?_
  obtain ⟨h1, H⟩ := H
  refine zW_bh (zcmp .ne (Int32.ofNat ((T i).2.1)) (0 : Int32)) 11 7 [some (.ref (21 + 8 * i))] [] 1 (fun f => rfl) (fun c => ?_) (fun c => ?_)
  · have c9 : ¬ (T i).2.1 = 0 := (by have c := (zcN_ne (a := (T i).2.1) (b := 0) rfl rfl h1 (by decide)).symm.trans c; simpa using c)
    replace H := H.1 c9
    refine zW_gh 12 [some (.ref (21 + 8 * i))] [.int (0 : Int32)] 1 (fun f => rfl) ?_
    exact zW_rh (some (.int (0 : Int32))) 1 (fun f => rfl) H
  · have c9 : (T i).2.1 = 0 := (by have c := (zcN_ne (a := (T i).2.1) (b := 0) rfl rfl h1 (by decide)).symm.trans c; simpa using c)
    replace H := H.2 c9
    refine zW_gh 12 [some (.ref (21 + 8 * i))] [.int (1 : Int32)] 2 (fun f => rfl) ?_
    exact zW_rh (some (.int (1 : Int32))) 1 (fun f => rfl) H
theorem s27 {P : zPt} {T : Nat → zX} {Y : zYt} {I : zIt} {A : zAt} {w : Nat → Int64} {p : Nat × Nat} {Q : zR → zH → Prop} {i : Nat} (hi : i < 6) (hb : (T i).2.1 < 2147483648) (H : Q (.inl (some (.int (zbi (decide ((T i).2.1 = 0)))))) (zh (P, T, Y) I A w)) : zT zm_27 [.ref (21 + 8 * i)] p (zh (P, T, Y) I A w) Q := by
  refine b27 hi ⟨hb, fun h => zQf (decide_eq_false h) H, fun h => zQt (decide_eq_true h) H⟩
theorem b30 {P : zPt} {T : Nat → zX} {Y : zYt} {I : zIt} {A : zAt} {w : Nat → Int64} {p : Nat × Nat} {Q : zR → zH → Prop} {i : Nat} {a0 a1 : Int32} (hi_i : i < 6) (H : ((a0 < (0 : Int32) → Q (.inl (some (.int (0 : Int32)))) (zh (P, T, Y) I A w)) ∧ (¬ a0 < (0 : Int32) → (((Int32.ofNat ((T i).2.1)) ≤ a0 → Q (.inl (some (.int (0 : Int32)))) (zh (P, T, Y) I A w)) ∧ (¬ (Int32.ofNat ((T i).2.1)) ≤ a0 → ((a1 < (0 : Int32) → Q (.inl (some (.int (0 : Int32)))) (zh (P, T, Y) I A w)) ∧ (¬ a1 < (0 : Int32) → (((Int32.ofNat ((T i).2.2.1)) ≤ a1 → Q (.inl (some (.int (0 : Int32)))) (zh (P, T, Y) I A w)) ∧ (¬ (Int32.ofNat ((T i).2.2.1)) ≤ a1 → Q (.inl (some (.int (1 : Int32)))) (zh (P, T, Y) I A w)))))))))) : zT zm_30 [.ref (21 + 8 * i), .int a0, .int a1] p (zh (P, T, Y) I A w) Q := by
  change zW zm_30 0 [some (.ref (21 + 8 * i)), some (.int a0), some (.int a1)] [] p _ Q
  refine zW_bh (zcmp .lt a0 (0 : Int32)) 28 4 [some (.ref (21 + 8 * i)), some (.int a0), some (.int a1)] [] 2 (fun f => rfl) (fun c => ?_) (fun c => ?_)
  · have c9 : a0 < (0 : Int32) := (of_decide_eq_true c)
    replace H := H.1 c9
    refine zW_gh 29 [some (.ref (21 + 8 * i)), some (.int a0), some (.int a1)] [.int (0 : Int32)] 1 (fun f => rfl) ?_
    exact zW_rh (some (.int (0 : Int32))) 1 (fun f => rfl) H
  · have c9 : ¬ a0 < (0 : Int32) := (of_decide_eq_false c)
    replace H := H.2 c9
    refine zW_gh 6 [some (.ref (21 + 8 * i)), some (.int a0), some (.int a1)] [.ref (21 + 8 * i), .int a0] 2 (fun f => rfl) ?_
    refine zW_gf rfl (by have := hi_i; omega) (zh_T0 hi_i) rfl (v := .int (Int32.ofNat ((T i).2.1))) rfl ?_
    refine zW_bh (zcmp .ge a0 (Int32.ofNat ((T i).2.1))) 28 12 [some (.ref (21 + 8 * i)), some (.int a0), some (.int a1)] [] 1 (fun f => rfl) (fun c => ?_) (fun c => ?_)
    · have c9 : (Int32.ofNat ((T i).2.1)) ≤ a0 := (of_decide_eq_true c)
      replace H := H.1 c9
      refine zW_gh 29 [some (.ref (21 + 8 * i)), some (.int a0), some (.int a1)] [.int (0 : Int32)] 1 (fun f => rfl) ?_
      exact zW_rh (some (.int (0 : Int32))) 1 (fun f => rfl) H
    · have c9 : ¬ (Int32.ofNat ((T i).2.1)) ≤ a0 := (of_decide_eq_false c)
      replace H := H.2 c9
      refine zW_bh (zcmp .lt a1 (0 : Int32)) 28 16 [some (.ref (21 + 8 * i)), some (.int a0), some (.int a1)] [] 2 (fun f => rfl) (fun c => ?_) (fun c => ?_)
      · have c9 : a1 < (0 : Int32) := (of_decide_eq_true c)
        replace H := H.1 c9
        refine zW_gh 29 [some (.ref (21 + 8 * i)), some (.int a0), some (.int a1)] [.int (0 : Int32)] 1 (fun f => rfl) ?_
        exact zW_rh (some (.int (0 : Int32))) 1 (fun f => rfl) H
      · have c9 : ¬ a1 < (0 : Int32) := (of_decide_eq_false c)
        replace H := H.2 c9
        refine zW_gh 18 [some (.ref (21 + 8 * i)), some (.int a0), some (.int a1)] [.ref (21 + 8 * i), .int a1] 2 (fun f => rfl) ?_
        refine zW_gf rfl (by have := hi_i; omega) (zh_T0 hi_i) rfl (v := .int (Int32.ofNat ((T i).2.2.1))) rfl ?_
        refine zW_bh (zcmp .ge a1 (Int32.ofNat ((T i).2.2.1))) 28 24 [some (.ref (21 + 8 * i)), some (.int a0), some (.int a1)] [] 1 (fun f => rfl) (fun c => ?_) (fun c => ?_)
        · have c9 : (Int32.ofNat ((T i).2.2.1)) ≤ a1 := (of_decide_eq_true c)
          replace H := H.1 c9
          refine zW_gh 29 [some (.ref (21 + 8 * i)), some (.int a0), some (.int a1)] [.int (0 : Int32)] 1 (fun f => rfl) ?_
          exact zW_rh (some (.int (0 : Int32))) 1 (fun f => rfl) H
        · have c9 : ¬ (Int32.ofNat ((T i).2.2.1)) ≤ a1 := (of_decide_eq_false c)
          replace H := H.2 c9
          refine zW_gh 29 [some (.ref (21 + 8 * i)), some (.int a0), some (.int a1)] [.int (1 : Int32)] 2 (fun f => rfl) ?_
          exact zW_rh (some (.int (1 : Int32))) 1 (fun f => rfl) H
theorem s30 {P : zPt} {T : Nat → zX} {Y : zYt} {I : zIt} {A : zAt} {w : Nat → Int64} {p : Nat × Nat} {Q : zR → zH → Prop} {i : Nat} {a b : Int32} (hi : i < 6) (H : Q (.inl (some (.int (zbi (zcell (T i) a b))))) (zh (P, T, Y) I A w)) : zT zm_30 [.ref (21 + 8 * i), .int a, .int b] p (zh (P, T, Y) I A w) Q := by
  have f1 : ∀ {x : Int32}, x < 0 → decide (0 ≤ x) = false := fun h => decide_eq_false (zI_nle.mpr h)
  have f2 : ∀ {x y : Int32}, y ≤ x → decide (x < y) = false := fun h => decide_eq_false (zI_nlt.mpr h)
  have t1 : ∀ {x : Int32}, ¬ x < 0 → decide (0 ≤ x) = true := fun h => decide_eq_true (z0le h)
  have t2 : ∀ {x y : Int32}, ¬ y ≤ x → decide (x < y) = true := fun h => decide_eq_true (zI_nle.mp h)
  refine b30 hi ⟨fun h => zQf ?_ H, fun h => ⟨fun h2 => zQf ?_ H, fun h2 => ⟨fun h3 => zQf ?_ H, fun h3 => ⟨fun h4 => zQf ?_ H, fun h4 => zQt ?_ H⟩⟩⟩⟩
  · simp only [zcell, f1 h, Bool.false_and]
  · simp only [zcell, f2 h2, Bool.false_and, Bool.and_false]
  · simp only [zcell, f1 h3, Bool.false_and, Bool.and_false]
  · simp only [zcell, f2 h4, Bool.false_and, Bool.and_false]
  · simp only [zcell, t1 h, t2 h2, t1 h3, t2 h4, Bool.and_true]
theorem b31 {P : zPt} {T : Nat → zX} {Y : zYt} {I : zIt} {A : zAt} {w : Nat → Int64} {p : Nat × Nat} {Q : zR → zH → Prop} {i : Nat} {a0 a1 : Int32} (hi_i : i < 6) (H : (((zcell (T i) a0 a1) = false → Q (.inl (some (.long (0 : Int64)))) (zh (P, T, Y) I A w)) ∧ ((zcell (T i) a0 a1) = true → ∀ k_a0, k_a0 < 2147483648 → a0 = Int32.ofNat k_a0 → ∀ k_a1, k_a1 < 2147483648 → a1 = Int32.ofNat k_a1 → (((k_a0 * 4) + k_a1) < 16 ∧ Q (.inl (some (.long ((T i).2.2.2.2.1 ((k_a0 * 4) + k_a1))))) (zh (P, T, Y) I A w))))) : zT zm_31 [.ref (21 + 8 * i), .int a0, .int a1] p (zh (P, T, Y) I A w) Q := by
  change zW zm_31 0 [some (.ref (21 + 8 * i)), some (.int a0), some (.int a1)] [] p _ Q
  refine zW_gh 3 [some (.ref (21 + 8 * i)), some (.int a0), some (.int a1)] [.int a1, .int a0, .ref (21 + 8 * i)] 3 (fun f => rfl) ?_
  refine zW_cv rfl rfl rfl (by have := hi_i; omega) (zh_T0 hi_i) rfl rfl rfl rfl ((s30 hi_i) ?_)
  change zW zm_31 6 [some (.ref (21 + 8 * i)), some (.int a0), some (.int a1)] [.int (zbi (zcell (T i) a0 a1))] p _ Q
  refine zW_bh (zcmp .eq (zbi (zcell (T i) a0 a1)) (0 : Int32)) 22 9 [some (.ref (21 + 8 * i)), some (.int a0), some (.int a1)] [] 1 (fun f => rfl) (fun c => ?_) (fun c => ?_)
  · have c9 : (zcell (T i) a0 a1) = false := ((Bool.not_eq_true' _).mp ((zcB_eq _).symm.trans c))
    replace H := H.1 c9
    refine zW_gh 23 [some (.ref (21 + 8 * i)), some (.int a0), some (.int a1)] [.long (0 : Int64)] 1 (fun f => rfl) ?_
    exact zW_rh (some (.long (0 : Int64))) 1 (fun f => rfl) H
  · have c9 : (zcell (T i) a0 a1) = true := ((Bool.not_eq_false' _).mp ((zcB_eq _).symm.trans c))
    replace H := H.2 c9
    obtain ⟨k_a0, h_k_a0, e_k_a0⟩ := zcell_r c9
    replace H := H k_a0 h_k_a0 e_k_a0
    subst e_k_a0
    obtain ⟨k_a1, h_k_a1, e_k_a1⟩ := zcell_c c9
    replace H := H k_a1 h_k_a1 e_k_a1
    subst e_k_a1
    refine zW_gh 10 [some (.ref (21 + 8 * i)), some (.int (Int32.ofNat k_a0)), some (.int (Int32.ofNat k_a1))] [.ref (21 + 8 * i)] 1 (fun f => rfl) ?_
    refine zW_gf rfl (by have := hi_i; omega) (zh_T0 hi_i) rfl (v := .ref (21 + 8 * i + 1)) rfl ?_
    refine zW_gh 18 [some (.ref (21 + 8 * i)), some (.int (Int32.ofNat k_a0)), some (.int (Int32.ofNat k_a1))] [.int (((Int32.ofNat k_a0) * (4 : Int32)) + (Int32.ofNat k_a1)), .ref (21 + 8 * i + 1)] 5 (fun f => rfl) ?_
    obtain ⟨h1, H⟩ := H
    refine zW_lald rfl (by have := hi_i; omega) (zh_T (c := 1) hi_i (by decide)) (by decide) (zN_a (zN_m rfl rfl) rfl) h1 ?_
    refine zW_gh 23 [some (.ref (21 + 8 * i)), some (.int (Int32.ofNat k_a0)), some (.int (Int32.ofNat k_a1))] [.long ((T i).2.2.2.2.1 ((k_a0 * 4) + k_a1))] 1 (fun f => rfl) ?_
    exact zW_rh (some (.long ((T i).2.2.2.2.1 ((k_a0 * 4) + k_a1)))) 1 (fun f => rfl) H
theorem s31 {P : zPt} {T : Nat → zX} {Y : zYt} {I : zIt} {A : zAt} {w : Nat → Int64} {p : Nat × Nat} {Q : zR → zH → Prop} {i : Nat} {a b : Int32} (hi : i < 6) (hX : zXb (T i)) (H : Q (.inl (some (.long (zxat (T i) a b)))) (zh (P, T, Y) I A w)) : zT zm_31 [.ref (21 + 8 * i), .int a, .int b] p (zh (P, T, Y) I A w) Q := by
  refine b31 hi ⟨fun h => ?_, fun h k1 g1 e1 k2 g2 e2 => ?_⟩
  · simpa only [zxat, h, cond_false] using H
  · subst e1 e2
    obtain ⟨q1, q2, q3, q4⟩ := zcell_sm hX g1 g2 h
    refine ⟨by omega, ?_⟩
    simpa only [zxat, h, cond_true, zN_cl g1 (Nat.le_refl _), zN_cl g2 (Nat.le_refl _)] using H
theorem b41 {P : zPt} {T : Nat → zX} {Y : zYt} {I : zIt} {A : zAt} {w : Nat → Int64} {p : Nat × Nat} {Q : zR → zH → Prop} {i : Nat} {a1 a2 : Int32} {a0 : Bool} (hi_i : i < 6) (H : ((a0 = false → (zXb (T i) ∧ Q (.inl (some (.long (zxat (T i) a1 a2)))) (zh (P, T, Y) I A w))) ∧ (a0 = true → (zXb (T i) ∧ Q (.inl (some (.long (zxat (T i) a2 a1)))) (zh (P, T, Y) I A w))))) : zT zm_41 [.ref (21 + 8 * i), .int (zbi a0), .int a1, .int a2] p (zh (P, T, Y) I A w) Q := by
  change zW zm_41 0 [some (.ref (21 + 8 * i)), some (.int (zbi a0)), some (.int a1), some (.int a2)] [] p _ Q
  refine zW_bh (zcmp .eq (zbi a0) (0 : Int32)) 13 4 [some (.ref (21 + 8 * i)), some (.int (zbi a0)), some (.int a1), some (.int a2)] [] 2 (fun f => rfl) (fun c => ?_) (fun c => ?_)
  · have c9 : a0 = false := ((Bool.not_eq_true' _).mp ((zcB_eq _).symm.trans c))
    replace H := H.1 c9
    refine zW_gh 16 [some (.ref (21 + 8 * i)), some (.int (zbi a0)), some (.int a1), some (.int a2)] [.int a2, .int a1, .ref (21 + 8 * i)] 3 (fun f => rfl) ?_
    obtain ⟨h1, H⟩ := H
    refine zW_cv rfl rfl rfl (by have := hi_i; omega) (zh_T0 hi_i) rfl rfl rfl rfl ((s31 hi_i) h1 ?_)
    change zW zm_41 19 [some (.ref (21 + 8 * i)), some (.int (zbi a0)), some (.int a1), some (.int a2)] [.long (zxat (T i) a1 a2)] p _ Q
    exact zW_rh (some (.long (zxat (T i) a1 a2))) 1 (fun f => rfl) H
  · have c9 : a0 = true := ((Bool.not_eq_false' _).mp ((zcB_eq _).symm.trans c))
    replace H := H.2 c9
    refine zW_gh 7 [some (.ref (21 + 8 * i)), some (.int (zbi a0)), some (.int a1), some (.int a2)] [.int a1, .int a2, .ref (21 + 8 * i)] 3 (fun f => rfl) ?_
    obtain ⟨h2, H⟩ := H
    refine zW_cv rfl rfl rfl (by have := hi_i; omega) (zh_T0 hi_i) rfl rfl rfl rfl ((s31 hi_i) h2 ?_)
    change zW zm_41 10 [some (.ref (21 + 8 * i)), some (.int (zbi a0)), some (.int a1), some (.int a2)] [.long (zxat (T i) a2 a1)] p _ Q
    refine zW_gh 19 [some (.ref (21 + 8 * i)), some (.int (zbi a0)), some (.int a1), some (.int a2)] [.long (zxat (T i) a2 a1)] 1 (fun f => rfl) ?_
    exact zW_rh (some (.long (zxat (T i) a2 a1))) 1 (fun f => rfl) H
theorem s41 {P : zPt} {T : Nat → zX} {Y : zYt} {I : zIt} {A : zAt} {w : Nat → Int64} {p : Nat × Nat} {Q : zR → zH → Prop} {i : Nat} {a b : Int32} {c : Bool} (hi : i < 6) (hX : zXb (T i)) (H : Q (.inl (some (.long (zxal (T i) c a b)))) (zh (P, T, Y) I A w)) : zT zm_41 [.ref (21 + 8 * i), .int (zbi c), .int a, .int b] p (zh (P, T, Y) I A w) Q := by
  refine b41 hi ⟨fun h => ⟨hX, ?_⟩, fun h => ⟨hX, ?_⟩⟩ <;> (subst h; exact H)
theorem b38 {P : zPt} {T : Nat → zX} {Y : zYt} {I : zIt} {A : zAt} {w : Nat → Int64} {p : Nat × Nat} {Q : zR → zH → Prop} {i : Nat} {a0 : Bool} (hi_i : i < 6) (H : ((a0 = false → Q (.inl (some (.int (Int32.ofNat ((T i).2.1))))) (zh (P, T, Y) I A w)) ∧ (a0 = true → Q (.inl (some (.int (Int32.ofNat ((T i).2.2.1))))) (zh (P, T, Y) I A w)))) : zT zm_38 [.ref (21 + 8 * i), .int (zbi a0)] p (zh (P, T, Y) I A w) Q := by
  change zW zm_38 0 [some (.ref (21 + 8 * i)), some (.int (zbi a0))] [] p _ Q
  refine zW_bh (zcmp .eq (zbi a0) (0 : Int32)) 11 4 [some (.ref (21 + 8 * i)), some (.int (zbi a0))] [] 2 (fun f => rfl) (fun c => ?_) (fun c => ?_)
  · have c9 : a0 = false := ((Bool.not_eq_true' _).mp ((zcB_eq _).symm.trans c))
    replace H := H.1 c9
    refine zW_gh 12 [some (.ref (21 + 8 * i)), some (.int (zbi a0))] [.ref (21 + 8 * i)] 1 (fun f => rfl) ?_
    refine zW_gf rfl (by have := hi_i; omega) (zh_T0 hi_i) rfl (v := .int (Int32.ofNat ((T i).2.1))) rfl ?_
    exact zW_rh (some (.int (Int32.ofNat ((T i).2.1)))) 1 (fun f => rfl) H
  · have c9 : a0 = true := ((Bool.not_eq_false' _).mp ((zcB_eq _).symm.trans c))
    replace H := H.2 c9
    refine zW_gh 5 [some (.ref (21 + 8 * i)), some (.int (zbi a0))] [.ref (21 + 8 * i)] 1 (fun f => rfl) ?_
    refine zW_gf rfl (by have := hi_i; omega) (zh_T0 hi_i) rfl (v := .int (Int32.ofNat ((T i).2.2.1))) rfl ?_
    refine zW_gh 15 [some (.ref (21 + 8 * i)), some (.int (zbi a0))] [.int (Int32.ofNat ((T i).2.2.1))] 1 (fun f => rfl) ?_
    exact zW_rh (some (.int (Int32.ofNat ((T i).2.2.1)))) 1 (fun f => rfl) H
theorem s38 {P : zPt} {T : Nat → zX} {Y : zYt} {I : zIt} {A : zAt} {w : Nat → Int64} {p : Nat × Nat} {Q : zR → zH → Prop} {i : Nat} {c : Bool} (hi : i < 6) (H : Q (.inl (some (.int (Int32.ofNat (zlns (T i) c))))) (zh (P, T, Y) I A w)) : zT zm_38 [.ref (21 + 8 * i), .int (zbi c)] p (zh (P, T, Y) I A w) Q := by
  refine b38 hi ⟨fun h => ?_, fun h => ?_⟩ <;> (subst h; exact H)
theorem b37 {P : zPt} {T : Nat → zX} {Y : zYt} {I : zIt} {A : zAt} {w : Nat → Int64} {p : Nat × Nat} {Q : zR → zH → Prop} {i : Nat} {a1 : Int32} {a0 : Bool} (hi_i : i < 6) (H : ((a1 < (0 : Int32) → Q (.inl (some (.int (0 : Int32)))) (zh (P, T, Y) I A w)) ∧ (¬ a1 < (0 : Int32) → (((Int32.ofNat (zlns (T i) a0)) ≤ a1 → Q (.inl (some (.int (0 : Int32)))) (zh (P, T, Y) I A w)) ∧ (¬ (Int32.ofNat (zlns (T i) a0)) ≤ a1 → Q (.inl (some (.int (1 : Int32)))) (zh (P, T, Y) I A w)))))) : zT zm_37 [.ref (21 + 8 * i), .int (zbi a0), .int a1] p (zh (P, T, Y) I A w) Q := by
  change zW zm_37 0 [some (.ref (21 + 8 * i)), some (.int (zbi a0)), some (.int a1)] [] p _ Q
  refine zW_bh (zcmp .lt a1 (0 : Int32)) 17 4 [some (.ref (21 + 8 * i)), some (.int (zbi a0)), some (.int a1)] [] 2 (fun f => rfl) (fun c => ?_) (fun c => ?_)
  · have c9 : a1 < (0 : Int32) := (of_decide_eq_true c)
    replace H := H.1 c9
    refine zW_gh 18 [some (.ref (21 + 8 * i)), some (.int (zbi a0)), some (.int a1)] [.int (0 : Int32)] 1 (fun f => rfl) ?_
    exact zW_rh (some (.int (0 : Int32))) 1 (fun f => rfl) H
  · have c9 : ¬ a1 < (0 : Int32) := (of_decide_eq_false c)
    replace H := H.2 c9
    refine zW_gh 7 [some (.ref (21 + 8 * i)), some (.int (zbi a0)), some (.int a1)] [.int (zbi a0), .ref (21 + 8 * i), .int a1] 3 (fun f => rfl) ?_
    refine zW_cv rfl rfl rfl (by have := hi_i; omega) (zh_T0 hi_i) rfl rfl rfl rfl ((s38 (c := a0) hi_i) ?_)
    change zW zm_37 10 [some (.ref (21 + 8 * i)), some (.int (zbi a0)), some (.int a1)] [.int (Int32.ofNat (zlns (T i) a0)), .int a1] p _ Q
    refine zW_bh (zcmp .ge a1 (Int32.ofNat (zlns (T i) a0))) 17 13 [some (.ref (21 + 8 * i)), some (.int (zbi a0)), some (.int a1)] [] 1 (fun f => rfl) (fun c => ?_) (fun c => ?_)
    · have c9 : (Int32.ofNat (zlns (T i) a0)) ≤ a1 := (of_decide_eq_true c)
      replace H := H.1 c9
      refine zW_gh 18 [some (.ref (21 + 8 * i)), some (.int (zbi a0)), some (.int a1)] [.int (0 : Int32)] 1 (fun f => rfl) ?_
      exact zW_rh (some (.int (0 : Int32))) 1 (fun f => rfl) H
    · have c9 : ¬ (Int32.ofNat (zlns (T i) a0)) ≤ a1 := (of_decide_eq_false c)
      replace H := H.2 c9
      refine zW_gh 18 [some (.ref (21 + 8 * i)), some (.int (zbi a0)), some (.int a1)] [.int (1 : Int32)] 2 (fun f => rfl) ?_
      exact zW_rh (some (.int (1 : Int32))) 1 (fun f => rfl) H
theorem s37 {P : zPt} {T : Nat → zX} {Y : zYt} {I : zIt} {A : zAt} {w : Nat → Int64} {p : Nat × Nat} {Q : zR → zH → Prop} {i : Nat} {a : Int32} {c : Bool} (hi : i < 6) (H : Q (.inl (some (.int (zbi (zisl (T i) c a))))) (zh (P, T, Y) I A w)) : zT zm_37 [.ref (21 + 8 * i), .int (zbi c), .int a] p (zh (P, T, Y) I A w) Q := by
  have f1 : ∀ {x : Int32}, x < 0 → decide (0 ≤ x) = false := fun h => decide_eq_false (zI_nle.mpr h)
  have f2 : ∀ {x y : Int32}, y ≤ x → decide (x < y) = false := fun h => decide_eq_false (zI_nlt.mpr h)
  have t1 : ∀ {x : Int32}, ¬ x < 0 → decide (0 ≤ x) = true := fun h => decide_eq_true (z0le h)
  have t2 : ∀ {x y : Int32}, ¬ y ≤ x → decide (x < y) = true := fun h => decide_eq_true (zI_nle.mp h)
  refine b37 hi ⟨fun h => zQf ?_ H, fun h => ⟨fun h2 => zQf ?_ H, fun h2 => zQt ?_ H⟩⟩
  · simp only [zisl, f1 h, Bool.false_and]
  · simp only [zisl, f2 h2, Bool.false_and, Bool.and_false]
  · simp only [zisl, t1 h, t2 h2, Bool.and_true]
theorem b35 {P : zPt} {T : Nat → zX} {Y : zYt} {I : zIt} {A : zAt} {w : Nat → Int64} {p : Nat × Nat} {Q : zR → zH → Prop} {i j : Nat} (hi_i : i < 6) (hi_j : j < 6) (H : ((zrno ((T i).1)) < 2147483648 ∧ ((zrno ((T j).1)) < 2147483648 ∧ ((¬ (zrno ((T i).1)) = (zrno ((T j).1)) → Q (.inl (some (.int (0 : Int32)))) (zh (P, T, Y) I A w)) ∧ ((zrno ((T i).1)) = (zrno ((T j).1)) → Q (.inl (some (.int (1 : Int32)))) (zh (P, T, Y) I A w)))))) : zT zm_35 [.ref (21 + 8 * i), .ref (21 + 8 * j)] p (zh (P, T, Y) I A w) Q := by
  change zW zm_35 0 [some (.ref (21 + 8 * i)), some (.ref (21 + 8 * j))] [] p _ Q
  refine zW_gh 1 [some (.ref (21 + 8 * i)), some (.ref (21 + 8 * j))] [.ref (21 + 8 * i)] 1 (fun f => rfl) ?_
  refine zW_gf rfl (by have := hi_i; omega) (zh_T0 hi_i) rfl (v := .ref (zra ((T i).1))) rfl ?_
  refine zW_gr rfl rfl rfl rfl ?_
  refine zW_gh 8 [some (.ref (21 + 8 * i)), some (.ref (21 + 8 * j))] [.ref (21 + 8 * j), .int (Int32.ofNat (zrno ((T i).1)))] 1 (fun f => rfl) ?_
  refine zW_gf rfl (by have := hi_j; omega) (zh_T0 hi_j) rfl (v := .ref (zra ((T j).1))) rfl ?_
  refine zW_gr rfl rfl rfl rfl ?_
  obtain ⟨h1, H⟩ := H
  obtain ⟨h2, H⟩ := H
  refine zW_bh (zcmp .ne (Int32.ofNat (zrno ((T i).1))) (Int32.ofNat (zrno ((T j).1)))) 21 17 [some (.ref (21 + 8 * i)), some (.ref (21 + 8 * j))] [] 1 (fun f => rfl) (fun c => ?_) (fun c => ?_)
  · have c9 : ¬ (zrno ((T i).1)) = (zrno ((T j).1)) := (by have c := (zcN_ne (a := (zrno ((T i).1))) (b := (zrno ((T j).1))) rfl rfl h1 h2).symm.trans c; simpa using c)
    replace H := H.1 c9
    refine zW_gh 22 [some (.ref (21 + 8 * i)), some (.ref (21 + 8 * j))] [.int (0 : Int32)] 1 (fun f => rfl) ?_
    exact zW_rh (some (.int (0 : Int32))) 1 (fun f => rfl) H
  · have c9 : (zrno ((T i).1)) = (zrno ((T j).1)) := (by have c := (zcN_ne (a := (zrno ((T i).1))) (b := (zrno ((T j).1))) rfl rfl h1 h2).symm.trans c; simpa using c)
    replace H := H.2 c9
    refine zW_gh 22 [some (.ref (21 + 8 * i)), some (.ref (21 + 8 * j))] [.int (1 : Int32)] 2 (fun f => rfl) ?_
    exact zW_rh (some (.int (1 : Int32))) 1 (fun f => rfl) H
theorem s35 {P : zPt} {T : Nat → zX} {Y : zYt} {I : zIt} {A : zAt} {w : Nat → Int64} {p : Nat × Nat} {Q : zR → zH → Prop} {i j : Nat} (hi : i < 6) (hj : j < 6) (H : Q (.inl (some (.int (zbi (decide (zrno (T i).1 = zrno (T j).1)))))) (zh (P, T, Y) I A w)) : zT zm_35 [.ref (21 + 8 * i), .ref (21 + 8 * j)] p (zh (P, T, Y) I A w) Q := by
  have g : ∀ r, zrno r < 2147483648 := fun r => by unfold zrno; split <;> decide
  exact b35 hi hj ⟨g _, g _, fun h => zQf (decide_eq_false h) H, fun h => zQt (decide_eq_true h) H⟩
theorem b95 {P : zPt} {T : Nat → zX} {Y : zYt} {I : zIt} {A : zAt} {w : Nat → Int64} {p : Nat × Nat} {Q : zR → zH → Prop} {a0 : Int32} (H : ((a0 < (0 : Int32) → Q (.inr 0) (zh (P, T, Y) I A w)) ∧ (¬ a0 < (0 : Int32) → ∀ k_a0, k_a0 < 2147483648 → a0 = Int32.ofNat k_a0 → ((k_a0 < 3 → (k_a0 < 3 ∧ Q (.inl (some (.ref (21 + 8 * k_a0)))) (zh (P, T, Y) I A w))) ∧ (3 ≤ k_a0 → Q (.inr 0) (zh (P, T, Y) I A w)))))) : zT zm_95 [.ref 0, .int a0] p (zh (P, T, Y) I A w) Q := by
  change zW zm_95 0 [some (.ref 0), some (.int a0)] [] p _ Q
  refine zW_bh (zcmp .lt a0 (0 : Int32)) 9 4 [some (.ref 0), some (.int a0)] [] 2 (fun f => rfl) (fun c => ?_) (fun c => ?_)
  · have c9 : a0 < (0 : Int32) := (of_decide_eq_true c)
    replace H := H.1 c9
    exact zW_th 0 1 (fun f => rfl) H
  · have c9 : ¬ a0 < (0 : Int32) := (of_decide_eq_false c)
    replace H := H.2 c9
    obtain ⟨k_a0, h_k_a0, e_k_a0⟩ := zNn c9
    replace H := H k_a0 h_k_a0 e_k_a0
    subst e_k_a0
    refine zW_bh (zcmp .lt (Int32.ofNat k_a0) (3 : Int32)) 20 9 [some (.ref 0), some (.int (Int32.ofNat k_a0))] [] 3 (fun f => rfl) (fun c => ?_) (fun c => ?_)
    · have c9 : k_a0 < 3 := (of_decide_eq_true ((zcN_lt (a := k_a0) (b := 3) rfl rfl h_k_a0 (by decide)).symm.trans c))
      replace H := H.1 c9
      refine zW_gh 25 [some (.ref 0), some (.int (Int32.ofNat k_a0))] [.int (Int32.ofNat k_a0), .ref 20] 3 (fun f => rfl) ?_
      obtain ⟨h1, H⟩ := H
      refine zW_aald rfl (by decide) rfl rfl (by decide) rfl h1 (zsls_ok h1) ?_
      exact zW_rh (some (.ref (21 + 8 * k_a0))) 1 (fun f => rfl) H
    · have c9 : 3 ≤ k_a0 := (Nat.le_of_not_lt (of_decide_eq_false ((zcN_lt (a := k_a0) (b := 3) rfl rfl h_k_a0 (by decide)).symm.trans c)))
      replace H := H.2 c9
      exact zW_th 0 1 (fun f => rfl) H
theorem zslot_N {k : Nat} (hk : k < 2147483648) : zslot (Int32.ofNat k) = decide (k < 3) := by
  rw [Bool.eq_iff_iff, zslot, zin_iff, Int32.toInt_toInt64, zN_i hk, decide_eq_true_eq, show Int64.toInt 0 = 0 from rfl, show Int64.toInt 2 = 2 from rfl]
  omega
theorem zslot_neg {x : Int32} (h : x < 0) : zslot x = false := by
  rw [Int32.lt_iff_toInt_lt, Int32.toInt_zero] at h
  rw [← Bool.not_eq_true, zslot, zin_iff, Int32.toInt_toInt64, show Int64.toInt 0 = 0 from rfl]
  omega
theorem zisr_N {k : Nat} (hk : k < 2147483648) : zisr (Int32.ofNat k) = true ↔ zrg k := by
  have e : ∀ j : Nat, j < 2147483648 → (Int32.ofNat k = Int32.ofNat j ↔ k = j) := fun j hj => by rw [← Int32.toInt_inj, zN_i hk, zN_i hj]; omega
  simp only [zisr, Bool.or_eq_true, decide_eq_true_eq]
  rw [zin_iff, Int32.toInt_toInt64, zN_i hk, show Int64.toInt 0 = 0 from rfl, show Int64.toInt 3 = 3 from rfl, show (5 : Int32) = Int32.ofNat 5 from rfl, show (7 : Int32) = Int32.ofNat 7 from rfl, e 5 (by decide), e 7 (by decide)]
  unfold zrg
  omega
theorem zrno_lt (r : Nat) : zrno r < 8 := by unfold zrno; split <;> decide
theorem zrno_zrk {k : Nat} (hk : k < 6) : zrno (zrk k) = zrk k ∧ zrg (zrk k) := by
  match k, hk with
  | 0, _ => exact ⟨rfl, by simp [zrg, zrk]⟩
  | 1, _ => exact ⟨rfl, by simp [zrg, zrk]⟩
  | 2, _ => exact ⟨rfl, by simp [zrg, zrk]⟩
  | 3, _ => exact ⟨rfl, by simp [zrg, zrk]⟩
  | 4, _ => exact ⟨rfl, by simp [zrg, zrk]⟩
  | 5, _ => exact ⟨rfl, by simp [zrg, zrk]⟩
theorem zrk_all {r : Nat} (h : zrg r) : ∃ k, k < 6 ∧ zrk k = r := by
  unfold zrg at h
  rcases h with rfl | rfl | rfl | rfl | rfl | rfl
  · exact ⟨0, by decide, rfl⟩
  · exact ⟨1, by decide, rfl⟩
  · exact ⟨2, by decide, rfl⟩
  · exact ⟨3, by decide, rfl⟩
  · exact ⟨4, by decide, rfl⟩
  · exact ⟨5, by decide, rfl⟩
theorem s95 {P : zPt} {T : Nat → zX} {Y : zYt} {I : zIt} {A : zAt} {w : Nat → Int64} {p : Nat × Nat} {Q : zR → zH → Prop} {a : Int32} (H : (zslot a = true → ∀ k, k < 3 → a = Int32.ofNat k → Q (.inl (some (.ref (21 + 8 * k)))) (zh (P, T, Y) I A w)) ∧ (zslot a = false → Q (.inr 0) (zh (P, T, Y) I A w))) : zT zm_95 [.ref 0, .int a] p (zh (P, T, Y) I A w) Q := by
  refine b95 ⟨fun h => H.2 (zslot_neg h), fun h k hk e => ⟨fun h3 => ⟨h3, ?_⟩, fun h3 => ?_⟩⟩
  · subst e
    exact H.1 (by rw [zslot_N hk]; exact decide_eq_true h3) k h3 rfl
  · subst e
    exact H.2 (by rw [zslot_N hk]; exact decide_eq_false (by omega))
theorem b99 {P : zPt} {T : Nat → zX} {Y : zYt} {I : zIt} {A : zAt} {w : Nat → Int64} {p : Nat × Nat} {Q : zR → zH → Prop} {a0 : Int32} (H : ((zslot a0 = true → ∀ k_a0, k_a0 < 3 → a0 = Int32.ofNat k_a0 → ((T k_a0).2.1 < 2147483648 ∧ (((decide ((T k_a0).2.1 = 0)) = true → Q (.inr 1) (zh (P, T, Y) I A w)) ∧ ((decide ((T k_a0).2.1 = 0)) = false → Q (.inl (some (.ref (21 + 8 * k_a0)))) (zh (P, T, Y) I A w))))) ∧ (zslot a0 = false → Q (.inr 0) (zh (P, T, Y) I A w)))) : zT zm_99 [.ref 0, .int a0] p (zh (P, T, Y) I A w) Q := by
  change zW zm_99 0 [some (.ref 0), some (.int a0), none] [] p _ Q
  refine zW_gh 2 [some (.ref 0), some (.int a0), none] [.int a0, .ref 0] 2 (fun f => rfl) ?_
  refine zW_cl rfl rfl rfl rfl rfl (s95 ⟨fun c9 k_a0 h_k_a0 e_k_a0 => ?_, fun c9 => ?_⟩)
  · replace H := H.1 c9 k_a0 h_k_a0 e_k_a0
    subst e_k_a0
    change zW zm_99 5 [some (.ref 0), some (.int (Int32.ofNat k_a0)), none] [.ref (21 + 8 * k_a0)] p _ Q
    refine zW_gh 7 [some (.ref 0), some (.int (Int32.ofNat k_a0)), some (.ref (21 + 8 * k_a0))] [.ref (21 + 8 * k_a0)] 2 (fun f => rfl) ?_
    obtain ⟨h1, H⟩ := H
    refine zW_cv rfl rfl rfl (by have := (show k_a0 < 6 from Nat.lt_trans h_k_a0 (by decide)); omega) (zh_T0 (show k_a0 < 6 from Nat.lt_trans h_k_a0 (by decide))) rfl rfl rfl rfl ((s27 (show k_a0 < 6 from Nat.lt_trans h_k_a0 (by decide))) h1 ?_)
    change zW zm_99 10 [some (.ref 0), some (.int (Int32.ofNat k_a0)), some (.ref (21 + 8 * k_a0))] [.int (zbi (decide ((T k_a0).2.1 = 0)))] p _ Q
    refine zW_bh (zcmp .ne (zbi (decide ((T k_a0).2.1 = 0))) (0 : Int32)) 17 13 [some (.ref 0), some (.int (Int32.ofNat k_a0)), some (.ref (21 + 8 * k_a0))] [] 1 (fun f => rfl) (fun c => ?_) (fun c => ?_)
    · have c9 : (decide ((T k_a0).2.1 = 0)) = true := ((zcB_ne _).symm.trans c)
      replace H := H.1 c9
      refine zW_gh 18 [some (.ref 0), some (.int (Int32.ofNat k_a0)), some (.ref (21 + 8 * k_a0))] [.int (0 : Int32)] 1 (fun f => rfl) ?_
      exact zW_cl rfl rfl rfl rfl rfl (s100f H)
    · have c9 : (decide ((T k_a0).2.1 = 0)) = false := ((zcB_ne _).symm.trans c)
      replace H := H.2 c9
      refine zW_gh 18 [some (.ref 0), some (.int (Int32.ofNat k_a0)), some (.ref (21 + 8 * k_a0))] [.int (1 : Int32)] 2 (fun f => rfl) ?_
      refine zW_cl rfl rfl rfl rfl rfl (s100t ?_)
      change zW zm_99 21 [some (.ref 0), some (.int (Int32.ofNat k_a0)), some (.ref (21 + 8 * k_a0))] [] p _ Q
      refine zW_gh 22 [some (.ref 0), some (.int (Int32.ofNat k_a0)), some (.ref (21 + 8 * k_a0))] [.ref (21 + 8 * k_a0)] 1 (fun f => rfl) ?_
      exact zW_rh (some (.ref (21 + 8 * k_a0))) 1 (fun f => rfl) H
  · exact H.2 c9
theorem s99 {P : zPt} {T : Nat → zX} {Y : zYt} {I : zIt} {A : zAt} {w : Nat → Int64} {p : Nat × Nat} {Q : zR → zH → Prop} {a : Int32} (hT : zTb T) (H : (zslot a = true ∧ zfil T a → ∀ k, k < 3 → a = Int32.ofNat k → Q (.inl (some (.ref (21 + 8 * k)))) (zh (P, T, Y) I A w)) ∧ (zslot a = false → Q (.inr 0) (zh (P, T, Y) I A w)) ∧ (zslot a = true ∧ ¬ zfil T a → Q (.inr 1) (zh (P, T, Y) I A w))) : zT zm_99 [.ref 0, .int a] p (zh (P, T, Y) I A w) Q := by
  refine b99 ⟨fun h k hk e => ?_, fun h => H.2.1 h⟩
  subst e
  have hc : (Int32.ofNat k).toNatClampNeg = k := zN_cl hk (by decide)
  have hX := hT k
  refine ⟨by have := hX.1; omega, fun h0 => H.2.2 ⟨h, ?_⟩, fun h0 => H.1 ⟨h, ?_⟩ k hk rfl⟩
  · unfold zfil
    rw [hc]
    simpa using h0
  · unfold zfil
    rw [hc]
    simpa using h0
theorem b96 {P : zPt} {T : Nat → zX} {Y : zYt} {I : zIt} {A : zAt} {w : Nat → Int64} {p : Nat × Nat} {Q : zR → zH → Prop} {a0 : Int32} (H : zW zm_96 2 [some (.ref 0), some (.int a0), some (.int (Int32.ofNat 0))] [] p (zh (P, T, Y) I A w) Q) : zT zm_96 [.ref 0, .int a0] p (zh (P, T, Y) I A w) Q := by
  change zW zm_96 0 [some (.ref 0), some (.int a0), none] [] p _ Q
  refine zW_gh 2 [some (.ref 0), some (.int a0), some (.int (0 : Int32))] [] 2 (fun f => rfl) ?_
  exact H
theorem b96_2 {P : zPt} {T : Nat → zX} {Y : zYt} {I : zIt} {A : zAt} {w : Nat → Int64} {p : Nat × Nat} {Q : zR → zH → Prop} {x2 : Nat} {x1 : Int32} (H : (x2 < 2147483648 ∧ ((6 ≤ x2 → Q (.inr 2) (zh (P, T, Y) I A w)) ∧ (x2 < 6 → (x2 < 6 ∧ ((¬ (Int32.ofNat (zrno (zrk x2))) = x1 → zW zm_96 2 [some (.ref 0), some (.int x1), some (.int (Int32.ofNat (x2 + 1)))] [] p (zh (P, T, Y) I A w) Q) ∧ ((Int32.ofNat (zrno (zrk x2))) = x1 → Q (.inl (some (.ref (zra (zrk x2))))) (zh (P, T, Y) I A w)))))))) : zW zm_96 2 [some (.ref 0), some (.int x1), some (.int (Int32.ofNat x2))] [] p (zh (P, T, Y) I A w) Q := by
  obtain ⟨h1, H⟩ := H
  refine zW_bh (zcmp .ge (Int32.ofNat x2) (Int32.ofNat 6)) 37 11 [some (.ref 0), some (.int x1), some (.int (Int32.ofNat x2))] [] 5 (fun f => rfl) (fun c => ?_) (fun c => ?_)
  · have c9 : 6 ≤ x2 := (of_decide_eq_true ((zcN_ge (a := x2) (b := 6) rfl rfl h1 (by decide)).symm.trans c))
    replace H := H.1 c9
    exact zW_th 2 1 (fun f => rfl) H
  · have c9 : x2 < 6 := (Nat.lt_of_not_le (of_decide_eq_false ((zcN_ge (a := x2) (b := 6) rfl rfl h1 (by decide)).symm.trans c)))
    replace H := H.2 c9
    refine zW_gh 16 [some (.ref 0), some (.int x1), some (.int (Int32.ofNat x2))] [.int (Int32.ofNat x2), .ref 2] 3 (fun f => rfl) ?_
    obtain ⟨h2, H⟩ := H
    refine zW_aald rfl (by decide) rfl rfl (by decide) rfl h2 (zrgs_ok h2) ?_
    refine zW_gr rfl rfl rfl rfl ?_
    refine zW_bh (zcmp .ne (Int32.ofNat (zrno (zrk x2))) x1) 31 24 [some (.ref 0), some (.int x1), some (.int (Int32.ofNat x2))] [] 2 (fun f => rfl) (fun c => ?_) (fun c => ?_)
    · have c9 : ¬ (Int32.ofNat (zrno (zrk x2))) = x1 := (by simpa [zcmp] using c)
      replace H := H.1 c9
      refine zW_inc [some (.ref 0), some (.int x1), some (.int ((Int32.ofNat x2) + (1 : Int32)))] rfl rfl rfl ?_
      rw [show ((Int32.ofNat x2) + (1 : Int32)) = Int32.ofNat (x2 + 1) from (zN_a rfl rfl)]
      refine zW_gh 2 [some (.ref 0), some (.int x1), some (.int (Int32.ofNat (x2 + 1)))] [] 1 (fun f => rfl) ?_
      exact H
    · have c9 : (Int32.ofNat (zrno (zrk x2))) = x1 := (by simpa [zcmp] using c)
      replace H := H.2 c9
      refine zW_gh 29 [some (.ref 0), some (.int x1), some (.int (Int32.ofNat x2))] [.int (Int32.ofNat x2), .ref 2] 3 (fun f => rfl) ?_
      refine zW_aald rfl (by decide) rfl rfl (by decide) rfl h2 (zrgs_ok h2) ?_
      exact zW_rh (some (.ref (zra (zrk x2)))) 1 (fun f => rfl) H
theorem l96 {P : zPt} {T : Nat → zX} {Y : zYt} {I : zIt} {A : zAt} {w : Nat → Int64} {p : Nat × Nat} {Q : zR → zH → Prop} {a : Int32} (H : (zisr a = true → ∀ k, zrg k → a = Int32.ofNat k → Q (.inl (some (.ref (zra k)))) (zh (P, T, Y) I A w)) ∧ (zisr a = false → Q (.inr 2) (zh (P, T, Y) I A w))) : ∀ (n x : Nat), x + n = 6 → (∀ j, j < x → ¬ Int32.ofNat (zrno (zrk j)) = a) → zW zm_96 2 [some (.ref 0), some (.int a), some (.int (Int32.ofNat x))] [] p (zh (P, T, Y) I A w) Q := by
  intro n
  induction n with
  | zero =>
    intro x hx hj
    refine b96_2 ⟨by omega, fun h => H.2 ?_, fun h => by omega⟩
    rw [← Bool.not_eq_true]
    intro hr
    obtain ⟨k, hk, rfl⟩ := zisr_n hr
    obtain ⟨j, hj6, rfl⟩ := zrk_all hk
    exact hj j (by omega) (by rw [(zrno_zrk hj6).1])
  | succ n ih =>
    intro x hx hj
    refine b96_2 ⟨by omega, fun h => by omega, fun h => ⟨h, fun h1 => ih (x + 1) (by omega) (fun j hj' => ?_), fun h1 => ?_⟩⟩
    · by_cases hjx : j = x
      · subst hjx; exact h1
      · exact hj j (by omega)
    · obtain ⟨e1, e2⟩ := zrno_zrk h
      rw [e1] at h1
      exact H.1 (by rw [← h1]; exact (zisr_N (zrg_lt e2)).mpr e2) (zrk x) e2 h1.symm
theorem s96 {P : zPt} {T : Nat → zX} {Y : zYt} {I : zIt} {A : zAt} {w : Nat → Int64} {p : Nat × Nat} {Q : zR → zH → Prop} {a : Int32} (H : (zisr a = true → ∀ k, zrg k → a = Int32.ofNat k → Q (.inl (some (.ref (zra k)))) (zh (P, T, Y) I A w)) ∧ (zisr a = false → Q (.inr 2) (zh (P, T, Y) I A w))) : zT zm_96 [.ref 0, .int a] p (zh (P, T, Y) I A w) Q := by
  exact b96 (l96 H 6 0 rfl (fun j hj => by omega))
theorem b53 {P : zPt} {T : Nat → zX} {yc uc : Nat → Int32} {yl ul dp dw : Nat} {df : Int32} {dx : Bool} {dc : Nat → Int64} {I : zIt} {A : zAt} {w : Nat → Int64} {p : Nat × Nat} {Q : zR → zH → Prop} (H : ((df = (-1 : Int32) → Q (.inl (some (.int (0 : Int32)))) (zh (P, T, (yc, yl), (uc, ul), (dc, dp, df, dw, dx)) I A w)) ∧ (¬ df = (-1 : Int32) → Q (.inl (some (.int (1 : Int32)))) (zh (P, T, (yc, yl), (uc, ul), (dc, dp, df, dw, dx)) I A w)))) : zT zm_53 [.ref 73] p (zh (P, T, (yc, yl), (uc, ul), (dc, dp, df, dw, dx)) I A w) Q := by
  change zW zm_53 0 [some (.ref 73)] [] p _ Q
  refine zW_bh (zcmp .eq df (-1 : Int32)) 12 8 [some (.ref 73)] [] 4 (fun f => rfl) (fun c => ?_) (fun c => ?_)
  · have c9 : df = (-1 : Int32) := (of_decide_eq_true c)
    replace H := H.1 c9
    refine zW_gh 13 [some (.ref 73)] [.int (0 : Int32)] 1 (fun f => rfl) ?_
    exact zW_rh (some (.int (0 : Int32))) 1 (fun f => rfl) H
  · have c9 : ¬ df = (-1 : Int32) := (of_decide_eq_false c)
    replace H := H.2 c9
    refine zW_gh 13 [some (.ref 73)] [.int (1 : Int32)] 2 (fun f => rfl) ?_
    exact zW_rh (some (.int (1 : Int32))) 1 (fun f => rfl) H
theorem s53 {P : zPt} {T : Nat → zX} {yc uc : Nat → Int32} {yl ul dp dw : Nat} {df : Int32} {dx : Bool} {dc : Nat → Int64} {I : zIt} {A : zAt} {w : Nat → Int64} {p : Nat × Nat} {Q : zR → zH → Prop} (H : Q (.inl (some (.int (zbi (!decide (df = -1)))))) (zh (P, T, (yc, yl), (uc, ul), (dc, dp, df, dw, dx)) I A w)) : zT zm_53 [.ref 73] p (zh (P, T, (yc, yl), (uc, ul), (dc, dp, df, dw, dx)) I A w) Q := by
  exact b53 ⟨fun h => zQf (by simp [h]) H, fun h => zQt (by simp [h]) H⟩
theorem b52 {P : zPt} {T : Nat → zX} {yc uc : Nat → Int32} {yl ul dp dw : Nat} {df : Int32} {dx : Bool} {dc : Nat → Int64} {I : zIt} {A : zAt} {w : Nat → Int64} {p : Nat × Nat} {Q : zR → zH → Prop} {a0 : Int32} (H : (((!decide (df = -1)) = true → Q (.inl none) (zh (P, T, (yc, yl), (uc, ul), (dc, dp, df, dw, dx)) I A w)) ∧ ((!decide (df = -1)) = false → Q (.inl none) (zh (P, T, (yc, yl), (uc, ul), (dc, dp, a0, dw, dx)) I A w)))) : zT zm_52 [.ref 73, .int a0] p (zh (P, T, (yc, yl), (uc, ul), (dc, dp, df, dw, dx)) I A w) Q := by
  change zW zm_52 0 [some (.ref 73), some (.int a0)] [] p _ Q
  refine zW_gh 1 [some (.ref 73), some (.int a0)] [.ref 73] 1 (fun f => rfl) ?_
  refine zW_cl rfl rfl rfl rfl rfl (s53 ?_)
  change zW zm_52 4 [some (.ref 73), some (.int a0)] [.int (zbi (!decide (df = -1)))] p _ Q
  refine zW_bh (zcmp .ne (zbi (!decide (df = -1))) (0 : Int32)) 12 7 [some (.ref 73), some (.int a0)] [] 1 (fun f => rfl) (fun c => ?_) (fun c => ?_)
  · have c9 : (!decide (df = -1)) = true := ((zcB_ne _).symm.trans c)
    replace H := H.1 c9
    exact zW_rh none 1 (fun f => rfl) H
  · have c9 : (!decide (df = -1)) = false := ((zcB_ne _).symm.trans c)
    replace H := H.2 c9
    refine zW_gh 9 [some (.ref 73), some (.int a0)] [.int a0, .ref 73] 2 (fun f => rfl) ?_
    refine zW_go (pc' := 12) (L' := [some (.ref 73), some (.int a0)]) (st' := []) (h' := (va_up (zh (P, T, (yc, yl), (uc, ul), (dc, dp, df, dw, dx)) I A w) 73 (.inr (3, [.ref 69, .ref 74, .int (Int32.ofNat dp), .int a0, .int (Int32.ofNat dw), .int (zbi dx)])))) 1 (fun f => rfl) ?_
    refine zW_eq zu_73 ?_
    exact zW_rh none 1 (fun f => rfl) H
theorem s52 {P : zPt} {T : Nat → zX} {yc uc : Nat → Int32} {yl ul dp dw : Nat} {df : Int32} {dx : Bool} {dc : Nat → Int64} {I : zIt} {A : zAt} {w : Nat → Int64} {p : Nat × Nat} {Q : zR → zH → Prop} {a : Int32} (H : Q (.inl none) (zh (P, T, (yc, yl), (uc, ul), (dc, dp, (bif decide (df = -1) then a else df), dw, dx)) I A w)) : zT zm_52 [.ref 73, .int a] p (zh (P, T, (yc, yl), (uc, ul), (dc, dp, df, dw, dx)) I A w) Q := by
  refine b52 ⟨fun h => ?_, fun h => ?_⟩
  · have e : decide (df = -1) = false := by simpa using h
    rw [e] at H; exact H
  · have e : decide (df = -1) = true := by simpa using h
    rw [e] at H; exact H
theorem b90y {P : zPt} {T : Nat → zX} {yc uc : Nat → Int32} {yl ul dp dw : Nat} {df : Int32} {dx : Bool} {dc : Nat → Int64} {I : zIt} {A : zAt} {w : Nat → Int64} {p : Nat × Nat} {Q : zR → zH → Prop} {a0 : Int32} (H : ((a0 < (0 : Int32) → Q (.inl (some (.int (-1 : Int32)))) (zh (P, T, (yc, yl), (uc, ul), (dc, dp, df, dw, dx)) I A w)) ∧ (¬ a0 < (0 : Int32) → ∀ k_a0, k_a0 < 2147483648 → a0 = Int32.ofNat k_a0 → (yl < 2147483648 ∧ ((yl ≤ k_a0 → Q (.inl (some (.int (-1 : Int32)))) (zh (P, T, (yc, yl), (uc, ul), (dc, dp, df, dw, dx)) I A w)) ∧ (k_a0 < yl → ((120 ≤ k_a0 → Q (.inl (some (.int (-1 : Int32)))) (zh (P, T, (yc, yl), (uc, ul), (dc, dp, df, dw, dx)) I A w)) ∧ (k_a0 < 120 → (k_a0 < 120 ∧ Q (.inl (some (.int (yc k_a0)))) (zh (P, T, (yc, yl), (uc, ul), (dc, dp, df, dw, dx)) I A w)))))))))) : zT zm_90 [.ref 69, .int a0] p (zh (P, T, (yc, yl), (uc, ul), (dc, dp, df, dw, dx)) I A w) Q := by
  change zW zm_90 0 [some (.ref 69), some (.int a0)] [] p _ Q
  refine zW_bh (zcmp .lt a0 (0 : Int32)) 30 4 [some (.ref 69), some (.int a0)] [] 2 (fun f => rfl) (fun c => ?_) (fun c => ?_)
  · have c9 : a0 < (0 : Int32) := (of_decide_eq_true c)
    replace H := H.1 c9
    refine zW_gh 31 [some (.ref 69), some (.int a0)] [.int (-1 : Int32)] 1 (fun f => rfl) ?_
    exact zW_rh (some (.int (-1 : Int32))) 1 (fun f => rfl) H
  · have c9 : ¬ a0 < (0 : Int32) := (of_decide_eq_false c)
    replace H := H.2 c9
    obtain ⟨k_a0, h_k_a0, e_k_a0⟩ := zNn c9
    replace H := H k_a0 h_k_a0 e_k_a0
    subst e_k_a0
    obtain ⟨h1, H⟩ := H
    refine zW_bh (zcmp .ge (Int32.ofNat k_a0) (Int32.ofNat yl)) 30 12 [some (.ref 69), some (.int (Int32.ofNat k_a0))] [] 4 (fun f => rfl) (fun c => ?_) (fun c => ?_)
    · have c9 : yl ≤ k_a0 := (of_decide_eq_true ((zcN_ge (a := k_a0) (b := yl) rfl rfl h_k_a0 h1).symm.trans c))
      replace H := H.1 c9
      refine zW_gh 31 [some (.ref 69), some (.int (Int32.ofNat k_a0))] [.int (-1 : Int32)] 1 (fun f => rfl) ?_
      exact zW_rh (some (.int (-1 : Int32))) 1 (fun f => rfl) H
    · have c9 : k_a0 < yl := (Nat.lt_of_not_le (of_decide_eq_false ((zcN_ge (a := k_a0) (b := yl) rfl rfl h_k_a0 h1).symm.trans c)))
      replace H := H.2 c9
      refine zW_bh (zcmp .ge (Int32.ofNat k_a0) (Int32.ofNat 120)) 30 21 [some (.ref 69), some (.int (Int32.ofNat k_a0))] [] 5 (fun f => rfl) (fun c => ?_) (fun c => ?_)
      · have c9 : 120 ≤ k_a0 := (of_decide_eq_true ((zcN_ge (a := k_a0) (b := 120) rfl rfl h_k_a0 (by decide)).symm.trans c))
        replace H := H.1 c9
        refine zW_gh 31 [some (.ref 69), some (.int (Int32.ofNat k_a0))] [.int (-1 : Int32)] 1 (fun f => rfl) ?_
        exact zW_rh (some (.int (-1 : Int32))) 1 (fun f => rfl) H
      · have c9 : k_a0 < 120 := (Nat.lt_of_not_le (of_decide_eq_false ((zcN_ge (a := k_a0) (b := 120) rfl rfl h_k_a0 (by decide)).symm.trans c)))
        replace H := H.2 c9
        refine zW_gh 26 [some (.ref 69), some (.int (Int32.ofNat k_a0))] [.int (Int32.ofNat k_a0), .ref 70] 3 (fun f => rfl) ?_
        obtain ⟨h2, H⟩ := H
        refine zW_iald rfl (by decide) rfl (by decide) rfl h2 ?_
        refine zW_gh 31 [some (.ref 69), some (.int (Int32.ofNat k_a0))] [.int (yc k_a0)] 1 (fun f => rfl) ?_
        exact zW_rh (some (.int (yc k_a0))) 1 (fun f => rfl) H
theorem s90y {P : zPt} {T : Nat → zX} {yc uc : Nat → Int32} {yl ul dp dw : Nat} {df : Int32} {dx : Bool} {dc : Nat → Int64} {I : zIt} {A : zAt} {w : Nat → Int64} {p : Nat × Nat} {Q : zR → zH → Prop} {a : Int32} (h : yl < 2147483648) (H : Q (.inl (some (.int (zcda yc yl a 120)))) (zh (P, T, (yc, yl), (uc, ul), (dc, dp, df, dw, dx)) I A w)) : zT zm_90 [.ref 69, .int a] p (zh (P, T, (yc, yl), (uc, ul), (dc, dp, df, dw, dx)) I A w) Q := by
  have go : ∀ {v : Int32}, zcda yc yl a 120 = v → Q (.inl (some (.int v))) (zh (P, T, (yc, yl), (uc, ul), (dc, dp, df, dw, dx)) I A w) := fun e => e ▸ H
  have f1 : ∀ {x : Int32}, x < 0 → decide (0 ≤ x) = false := fun h => decide_eq_false (zI_nle.mpr h)
  refine b90y ⟨fun h0 => go ?_, fun h0 k hk e => ⟨h, ?_⟩⟩
  · simp only [zcda, f1 h0, Bool.false_and, cond_false]
  · subst e
    have e1 := zcN_lt (x := Int32.ofNat k) (y := Int32.ofNat yl) rfl rfl hk h
    have e2 := zcN_lt (x := Int32.ofNat k) (y := Int32.ofNat 120) rfl rfl hk (by decide)
    simp only [zcmp] at e1 e2
    refine ⟨fun h1 => go ?_, fun h1 => ⟨fun h2 => go ?_, fun h2 => ⟨h2, go ?_⟩⟩⟩
    · simp only [zcda, e1, decide_eq_false (show ¬ k < yl by omega), Bool.and_false, Bool.false_and, cond_false]
    · simp only [zcda, e2, decide_eq_false (show ¬ k < 120 by omega), Bool.and_false, cond_false]
    · simp only [zcda, e1, e2, decide_eq_true h1, decide_eq_true h2, decide_eq_true (z0le h0), Bool.and_true, cond_true, zN_cl hk (Nat.le_refl _)]
theorem b278 {P : zPt} {T : Nat → zX} {Y : zYt} {I : zIt} {A : zAt} {w : Nat → Int64} {p : Nat × Nat} {Q : zR → zH → Prop} {a0 a1 : Int32} (H : ((a0 < a1 → Q (.inl (some (.int a1))) (zh (P, T, Y) I A w)) ∧ (¬ a0 < a1 → Q (.inl (some (.int a0))) (zh (P, T, Y) I A w)))) : zT zm_278 [.int a0, .int a1] p (zh (P, T, Y) I A w) Q := by
  change zW zm_278 0 [some (.int a0), some (.int a1)] [] p _ Q
  refine zW_bh (zcmp .lt a0 a1) 9 5 [some (.int a0), some (.int a1)] [] 3 (fun f => rfl) (fun c => ?_) (fun c => ?_)
  · have c9 : a0 < a1 := (of_decide_eq_true c)
    replace H := H.1 c9
    refine zW_gh 10 [some (.int a0), some (.int a1)] [.int a1] 1 (fun f => rfl) ?_
    exact zW_rh (some (.int a1)) 1 (fun f => rfl) H
  · have c9 : ¬ a0 < a1 := (of_decide_eq_false c)
    replace H := H.2 c9
    refine zW_gh 10 [some (.int a0), some (.int a1)] [.int a0] 2 (fun f => rfl) ?_
    exact zW_rh (some (.int a0)) 1 (fun f => rfl) H
theorem s278 {P : zPt} {T : Nat → zX} {Y : zYt} {I : zIt} {A : zAt} {w : Nat → Int64} {p : Nat × Nat} {Q : zR → zH → Prop} {a b : Int32} (H : Q (.inl (some (.int (zmax a b)))) (zh (P, T, Y) I A w)) : zT zm_278 [.int a, .int b] p (zh (P, T, Y) I A w) Q := by
  refine b278 ⟨fun h => ?_, fun h => ?_⟩
  · simpa only [zmax, decide_eq_true h, cond_true] using H
  · simpa only [zmax, decide_eq_false h, cond_false] using H
theorem b280 {P : zPt} {T : Nat → zX} {Y : zYt} {I : zIt} {A : zAt} {w : Nat → Int64} {p : Nat × Nat} {Q : zR → zH → Prop} {a0 : Int32} (H : (((0 : Int32) ≤ a0 → Q (.inl (some (.int a0))) (zh (P, T, Y) I A w)) ∧ (¬ (0 : Int32) ≤ a0 → Q (.inl (some (.int (-a0)))) (zh (P, T, Y) I A w)))) : zT zm_280 [.int a0] p (zh (P, T, Y) I A w) Q := by
  change zW zm_280 0 [some (.int a0)] [] p _ Q
  refine zW_bh (zcmp .ge a0 (0 : Int32)) 9 4 [some (.int a0)] [] 2 (fun f => rfl) (fun c => ?_) (fun c => ?_)
  · have c9 : (0 : Int32) ≤ a0 := (of_decide_eq_true c)
    replace H := H.1 c9
    refine zW_gh 10 [some (.int a0)] [.int a0] 1 (fun f => rfl) ?_
    exact zW_rh (some (.int a0)) 1 (fun f => rfl) H
  · have c9 : ¬ (0 : Int32) ≤ a0 := (of_decide_eq_false c)
    replace H := H.2 c9
    refine zW_gh 10 [some (.int a0)] [.int (-a0)] 3 (fun f => rfl) ?_
    exact zW_rh (some (.int (-a0))) 1 (fun f => rfl) H
theorem s280 {P : zPt} {T : Nat → zX} {Y : zYt} {I : zIt} {A : zAt} {w : Nat → Int64} {p : Nat × Nat} {Q : zR → zH → Prop} {a : Int32} (H : Q (.inl (some (.int (zabs a)))) (zh (P, T, Y) I A w)) : zT zm_280 [.int a] p (zh (P, T, Y) I A w) Q := by
  refine b280 ⟨fun h => ?_, fun h => ?_⟩
  · simpa only [zabs, decide_eq_true h, cond_true] using H
  · simpa only [zabs, decide_eq_false h, cond_false] using H
theorem b279 {P : zPt} {T : Nat → zX} {Y : zYt} {I : zIt} {A : zAt} {w : Nat → Int64} {p : Nat × Nat} {Q : zR → zH → Prop} {a0 a1 : Nat} (H : (a0 < 2147483648 ∧ (a1 < 2147483648 ∧ ((a1 < a0 → Q (.inl (some (.int (Int32.ofNat a1)))) (zh (P, T, Y) I A w)) ∧ (a0 ≤ a1 → Q (.inl (some (.int (Int32.ofNat a0)))) (zh (P, T, Y) I A w)))))) : zT zm_279 [.int (Int32.ofNat a0), .int (Int32.ofNat a1)] p (zh (P, T, Y) I A w) Q := by
  change zW zm_279 0 [some (.int (Int32.ofNat a0)), some (.int (Int32.ofNat a1))] [] p _ Q
  obtain ⟨h1, H⟩ := H
  obtain ⟨h2, H⟩ := H
  refine zW_bh (zcmp .gt (Int32.ofNat a0) (Int32.ofNat a1)) 9 5 [some (.int (Int32.ofNat a0)), some (.int (Int32.ofNat a1))] [] 3 (fun f => rfl) (fun c => ?_) (fun c => ?_)
  · have c9 : a1 < a0 := (of_decide_eq_true ((zcN_gt (a := a0) (b := a1) rfl rfl h1 h2).symm.trans c))
    replace H := H.1 c9
    refine zW_gh 10 [some (.int (Int32.ofNat a0)), some (.int (Int32.ofNat a1))] [.int (Int32.ofNat a1)] 1 (fun f => rfl) ?_
    exact zW_rh (some (.int (Int32.ofNat a1))) 1 (fun f => rfl) H
  · have c9 : a0 ≤ a1 := (Nat.le_of_not_lt (of_decide_eq_false ((zcN_gt (a := a0) (b := a1) rfl rfl h1 h2).symm.trans c)))
    replace H := H.2 c9
    refine zW_gh 10 [some (.int (Int32.ofNat a0)), some (.int (Int32.ofNat a1))] [.int (Int32.ofNat a0)] 2 (fun f => rfl) ?_
    exact zW_rh (some (.int (Int32.ofNat a0))) 1 (fun f => rfl) H
theorem s279 {P : zPt} {T : Nat → zX} {Y : zYt} {I : zIt} {A : zAt} {w : Nat → Int64} {p : Nat × Nat} {Q : zR → zH → Prop} {x y : Int32} {a b : Nat} (hx : x = Int32.ofNat a) (hy : y = Int32.ofNat b) (ha : a < 2147483648) (hb : b < 2147483648) (H : Q (.inl (some (.int (Int32.ofNat (Nat.min a b))))) (zh (P, T, Y) I A w)) : zT zm_279 [.int x, .int y] p (zh (P, T, Y) I A w) Q := by
  subst hx hy
  refine b279 ⟨ha, hb, fun h => ?_, fun h => ?_⟩
  · rw [show Nat.min a b = b from Nat.min_eq_right (by omega)] at H; exact H
  · rw [show Nat.min a b = a from Nat.min_eq_left h] at H; exact H
theorem b281 {P : zPt} {T : Nat → zX} {Y : zYt} {I : zIt} {A : zAt} {w : Nat → Int64} {p : Nat × Nat} {Q : zR → zH → Prop} {a0 a1 : Int64} (H : (a1 ≠ 0 ∧ (((0 : Int64) ≤ (a0 ^^^ a1) → Q (.inl (some (.long (a0 / a1)))) (zh (P, T, Y) I A w)) ∧ (¬ (0 : Int64) ≤ (a0 ^^^ a1) → ((((a0 / a1) * a1) = a0 → Q (.inl (some (.long (a0 / a1)))) (zh (P, T, Y) I A w)) ∧ (¬ ((a0 / a1) * a1) = a0 → Q (.inl (some (.long ((a0 / a1) - (1 : Int64))))) (zh (P, T, Y) I A w))))))) : zT zm_281 [.long a0, .long a1] p (zh (P, T, Y) I A w) Q := by
  change zW zm_281 0 [some (.long a0), none, some (.long a1), none, none, none] [] p _ Q
  refine zW_gh 2 [some (.long a0), none, some (.long a1), none, none, none] [.long a1, .long a0] 2 (fun f => rfl) ?_
  obtain ⟨h1, H⟩ := H
  refine zW_ldiv rfl h1 ?_
  refine zW_bh (zcmp .ge (lg_cmp (a0 ^^^ a1) (0 : Int64)) (0 : Int32)) 27 13 [some (.long a0), none, some (.long a1), none, some (.long (a0 / a1)), none] [] 7 (fun f => rfl) (fun c => ?_) (fun c => ?_)
  · have c9 : (0 : Int64) ≤ (a0 ^^^ a1) := (of_decide_eq_true ((zcL_ge _ _).symm.trans c))
    replace H := H.1 c9
    refine zW_gh 29 [some (.long a0), none, some (.long a1), none, some (.long (a0 / a1)), none] [.long (a0 / a1)] 1 (fun f => rfl) ?_
    exact zW_rh (some (.long (a0 / a1))) 1 (fun f => rfl) H
  · have c9 : ¬ (0 : Int64) ≤ (a0 ^^^ a1) := (of_decide_eq_false ((zcL_ge _ _).symm.trans c))
    replace H := H.2 c9
    refine zW_bh (zcmp .eq (lg_cmp ((a0 / a1) * a1) a0) (0 : Int32)) 27 22 [some (.long a0), none, some (.long a1), none, some (.long (a0 / a1)), none] [] 6 (fun f => rfl) (fun c => ?_) (fun c => ?_)
    · have c9 : ((a0 / a1) * a1) = a0 := (of_decide_eq_true ((zcL_eq _ _).symm.trans c))
      replace H := H.1 c9
      refine zW_gh 29 [some (.long a0), none, some (.long a1), none, some (.long (a0 / a1)), none] [.long (a0 / a1)] 1 (fun f => rfl) ?_
      exact zW_rh (some (.long (a0 / a1))) 1 (fun f => rfl) H
    · have c9 : ¬ ((a0 / a1) * a1) = a0 := (of_decide_eq_false ((zcL_eq _ _).symm.trans c))
      replace H := H.2 c9
      refine zW_gh 26 [some (.long a0), none, some (.long a1), none, some (.long (a0 / a1)), none] [.long ((a0 / a1) - (1 : Int64))] 3 (fun f => rfl) ?_
      exact zW_rh (some (.long ((a0 / a1) - (1 : Int64)))) 1 (fun f => rfl) H
theorem s281 {P : zPt} {T : Nat → zX} {Y : zYt} {I : zIt} {A : zAt} {w : Nat → Int64} {p : Nat × Nat} {Q : zR → zH → Prop} {a b : Int64} (hb : b ≠ 0) (H : Q (.inl (some (.long (zfdl a b)))) (zh (P, T, Y) I A w)) : zT zm_281 [.long a, .long b] p (zh (P, T, Y) I A w) Q := by
  have go : ∀ {v}, zfdl a b = v → Q (.inl (some (.long v))) (zh (P, T, Y) I A w) := fun e => e ▸ H
  refine b281 ⟨hb, fun h => go ?_, fun h => ⟨fun h2 => go ?_, fun h2 => go ?_⟩⟩
  · simp only [zfdl, decide_eq_false (zL_nlt.mpr h), Bool.false_and, cond_false]
  · simp only [zfdl, decide_eq_true h2, Bool.not_true, Bool.and_false, cond_false]
  · simp only [zfdl, decide_eq_true (zL_nle.mp h), decide_eq_false h2, Bool.not_false, Bool.and_true, cond_true]
theorem b282 {P : zPt} {T : Nat → zX} {Y : zYt} {I : zIt} {A : zAt} {w : Nat → Int64} {p : Nat × Nat} {Q : zR → zH → Prop} {a0 a1 : Int32} (H : (a1 ≠ 0 ∧ (((0 : Int32) ≤ (a0 ^^^ a1) → Q (.inl (some (.int (a0 / a1)))) (zh (P, T, Y) I A w)) ∧ (¬ (0 : Int32) ≤ (a0 ^^^ a1) → ((((a0 / a1) * a1) = a0 → Q (.inl (some (.int (a0 / a1)))) (zh (P, T, Y) I A w)) ∧ (¬ ((a0 / a1) * a1) = a0 → Q (.inl (some (.int ((a0 / a1) - (1 : Int32))))) (zh (P, T, Y) I A w))))))) : zT zm_282 [.int a0, .int a1] p (zh (P, T, Y) I A w) Q := by
  change zW zm_282 0 [some (.int a0), some (.int a1), none] [] p _ Q
  refine zW_gh 2 [some (.int a0), some (.int a1), none] [.int a1, .int a0] 2 (fun f => rfl) ?_
  obtain ⟨h1, H⟩ := H
  refine zW_idiv rfl h1 ?_
  refine zW_bh (zcmp .ge (a0 ^^^ a1) (0 : Int32)) 21 10 [some (.int a0), some (.int a1), some (.int (a0 / a1))] [] 5 (fun f => rfl) (fun c => ?_) (fun c => ?_)
  · have c9 : (0 : Int32) ≤ (a0 ^^^ a1) := (of_decide_eq_true c)
    replace H := H.1 c9
    refine zW_gh 22 [some (.int a0), some (.int a1), some (.int (a0 / a1))] [.int (a0 / a1)] 1 (fun f => rfl) ?_
    exact zW_rh (some (.int (a0 / a1))) 1 (fun f => rfl) H
  · have c9 : ¬ (0 : Int32) ≤ (a0 ^^^ a1) := (of_decide_eq_false c)
    replace H := H.2 c9
    refine zW_bh (zcmp .eq ((a0 / a1) * a1) a0) 21 17 [some (.int a0), some (.int a1), some (.int (a0 / a1))] [] 5 (fun f => rfl) (fun c => ?_) (fun c => ?_)
    · have c9 : ((a0 / a1) * a1) = a0 := (of_decide_eq_true c)
      replace H := H.1 c9
      refine zW_gh 22 [some (.int a0), some (.int a1), some (.int (a0 / a1))] [.int (a0 / a1)] 1 (fun f => rfl) ?_
      exact zW_rh (some (.int (a0 / a1))) 1 (fun f => rfl) H
    · have c9 : ¬ ((a0 / a1) * a1) = a0 := (of_decide_eq_false c)
      replace H := H.2 c9
      refine zW_gh 20 [some (.int a0), some (.int a1), some (.int (a0 / a1))] [.int ((a0 / a1) - (1 : Int32))] 3 (fun f => rfl) ?_
      exact zW_rh (some (.int ((a0 / a1) - (1 : Int32)))) 1 (fun f => rfl) H
theorem s282 {P : zPt} {T : Nat → zX} {Y : zYt} {I : zIt} {A : zAt} {w : Nat → Int64} {p : Nat × Nat} {Q : zR → zH → Prop} {a b : Int32} (hb : b ≠ 0) (H : Q (.inl (some (.int (zfdi a b)))) (zh (P, T, Y) I A w)) : zT zm_282 [.int a, .int b] p (zh (P, T, Y) I A w) Q := by
  have go : ∀ {v}, zfdi a b = v → Q (.inl (some (.int v))) (zh (P, T, Y) I A w) := fun e => e ▸ H
  refine b282 ⟨hb, fun h => go ?_, fun h => ⟨fun h2 => go ?_, fun h2 => go ?_⟩⟩
  · simp only [zfdi, decide_eq_false (zI_nlt.mpr h), Bool.false_and, cond_false]
  · simp only [zfdi, decide_eq_true h2, Bool.not_true, Bool.and_false, cond_false]
  · simp only [zfdi, decide_eq_true (zI_nle.mp h), decide_eq_false h2, Bool.not_false, Bool.and_true, cond_true]
theorem b1 {P : zPt} {T : Nat → zX} {Y : zYt} {I : zIt} {A : zAt} {w : Nat → Int64} {p : Nat × Nat} {Q : zR → zH → Prop} {a0 a1 : Int64} (H : ((a0 < (-30000 : Int64) → Q (.inl (some (.int (0 : Int32)))) (zh (P, T, Y) I A w)) ∧ (¬ a0 < (-30000 : Int64) → (((30000 : Int64) < a0 → Q (.inl (some (.int (0 : Int32)))) (zh (P, T, Y) I A w)) ∧ (¬ (30000 : Int64) < a0 → ((a1 < (-30000 : Int64) → Q (.inl (some (.int (0 : Int32)))) (zh (P, T, Y) I A w)) ∧ (¬ a1 < (-30000 : Int64) → (((30000 : Int64) < a1 → Q (.inl (some (.int (0 : Int32)))) (zh (P, T, Y) I A w)) ∧ (¬ (30000 : Int64) < a1 → Q (.inl (some (.int (1 : Int32)))) (zh (P, T, Y) I A w)))))))))) : zT zm_1 [.ref 3, .long a0, .long a1] p (zh (P, T, Y) I A w) Q := by
  change zW zm_1 0 [some (.ref 3), some (.long a0), none, some (.long a1), none] [] p _ Q
  refine zW_bh (zcmp .lt (lg_cmp a0 (-30000 : Int64)) (0 : Int32)) 36 8 [some (.ref 3), some (.long a0), none, some (.long a1), none] [] 4 (fun f => rfl) (fun c => ?_) (fun c => ?_)
  · have c9 : a0 < (-30000 : Int64) := (of_decide_eq_true ((zcL_lt _ _).symm.trans c))
    replace H := H.1 c9
    refine zW_gh 37 [some (.ref 3), some (.long a0), none, some (.long a1), none] [.int (0 : Int32)] 1 (fun f => rfl) ?_
    exact zW_rh (some (.int (0 : Int32))) 1 (fun f => rfl) H
  · have c9 : ¬ a0 < (-30000 : Int64) := (of_decide_eq_false ((zcL_lt _ _).symm.trans c))
    replace H := H.2 c9
    refine zW_bh (zcmp .gt (lg_cmp a0 (30000 : Int64)) (0 : Int32)) 36 16 [some (.ref 3), some (.long a0), none, some (.long a1), none] [] 4 (fun f => rfl) (fun c => ?_) (fun c => ?_)
    · have c9 : (30000 : Int64) < a0 := (of_decide_eq_true ((zcL_gt _ _).symm.trans c))
      replace H := H.1 c9
      refine zW_gh 37 [some (.ref 3), some (.long a0), none, some (.long a1), none] [.int (0 : Int32)] 1 (fun f => rfl) ?_
      exact zW_rh (some (.int (0 : Int32))) 1 (fun f => rfl) H
    · have c9 : ¬ (30000 : Int64) < a0 := (of_decide_eq_false ((zcL_gt _ _).symm.trans c))
      replace H := H.2 c9
      refine zW_bh (zcmp .lt (lg_cmp a1 (-30000 : Int64)) (0 : Int32)) 36 24 [some (.ref 3), some (.long a0), none, some (.long a1), none] [] 4 (fun f => rfl) (fun c => ?_) (fun c => ?_)
      · have c9 : a1 < (-30000 : Int64) := (of_decide_eq_true ((zcL_lt _ _).symm.trans c))
        replace H := H.1 c9
        refine zW_gh 37 [some (.ref 3), some (.long a0), none, some (.long a1), none] [.int (0 : Int32)] 1 (fun f => rfl) ?_
        exact zW_rh (some (.int (0 : Int32))) 1 (fun f => rfl) H
      · have c9 : ¬ a1 < (-30000 : Int64) := (of_decide_eq_false ((zcL_lt _ _).symm.trans c))
        replace H := H.2 c9
        refine zW_bh (zcmp .gt (lg_cmp a1 (30000 : Int64)) (0 : Int32)) 36 32 [some (.ref 3), some (.long a0), none, some (.long a1), none] [] 4 (fun f => rfl) (fun c => ?_) (fun c => ?_)
        · have c9 : (30000 : Int64) < a1 := (of_decide_eq_true ((zcL_gt _ _).symm.trans c))
          replace H := H.1 c9
          refine zW_gh 37 [some (.ref 3), some (.long a0), none, some (.long a1), none] [.int (0 : Int32)] 1 (fun f => rfl) ?_
          exact zW_rh (some (.int (0 : Int32))) 1 (fun f => rfl) H
        · have c9 : ¬ (30000 : Int64) < a1 := (of_decide_eq_false ((zcL_gt _ _).symm.trans c))
          replace H := H.2 c9
          refine zW_gh 37 [some (.ref 3), some (.long a0), none, some (.long a1), none] [.int (1 : Int32)] 2 (fun f => rfl) ?_
          exact zW_rh (some (.int (1 : Int32))) 1 (fun f => rfl) H
theorem s1 {P : zPt} {T : Nat → zX} {Y : zYt} {I : zIt} {A : zAt} {w : Nat → Int64} {p : Nat × Nat} {Q : zR → zH → Prop} {a b : Int64} (H : Q (.inl (some (.int (zbi (zir1 a b))))) (zh (P, T, Y) I A w)) : zT zm_1 [.ref 3, .long a, .long b] p (zh (P, T, Y) I A w) Q := by
  refine b1 ⟨fun h => zQf ?_ H, fun h => ⟨fun h2 => zQf ?_ H, fun h2 => ⟨fun h3 => zQf ?_ H, fun h3 => ⟨fun h4 => zQf ?_ H, fun h4 => zQt ?_ H⟩⟩⟩⟩
  · simp only [zir1, zin_not.mpr (Or.inl h), Bool.false_and]
  · simp only [zir1, zin_not.mpr (Or.inr h2), Bool.false_and]
  · simp only [zir1, zin_not.mpr (Or.inl h3), Bool.and_false]
  · simp only [zir1, zin_not.mpr (Or.inr h4), Bool.and_false]
  · simp only [zir1, zin, decide_eq_true (zL_nlt.mp h), decide_eq_true (zL_nlt.mp h2), decide_eq_true (zL_nlt.mp h3), decide_eq_true (zL_nlt.mp h4), Bool.and_true]
theorem b16 {P : zPt} {T : Nat → zX} {Y : zYt} {I : zIt} {A : zAt} {w : Nat → Int64} {p : Nat × Nat} {Q : zR → zH → Prop} {a0 a1 : Int64} (H : ((a0 < (-1000000000 : Int64) → Q (.inl (some (.int (0 : Int32)))) (zh (P, T, Y) I A w)) ∧ (¬ a0 < (-1000000000 : Int64) → (((1000000000 : Int64) < a0 → Q (.inl (some (.int (0 : Int32)))) (zh (P, T, Y) I A w)) ∧ (¬ (1000000000 : Int64) < a0 → ((¬ a1 = (0 : Int64) → Q (.inl (some (.int (0 : Int32)))) (zh (P, T, Y) I A w)) ∧ (a1 = (0 : Int64) → Q (.inl (some (.int (1 : Int32)))) (zh (P, T, Y) I A w)))))))) : zT zm_16 [.ref 1, .long a0, .long a1] p (zh (P, T, Y) I A w) Q := by
  change zW zm_16 0 [some (.ref 1), some (.long a0), none, some (.long a1), none] [] p _ Q
  refine zW_bh (zcmp .lt (lg_cmp a0 (-1000000000 : Int64)) (0 : Int32)) 26 8 [some (.ref 1), some (.long a0), none, some (.long a1), none] [] 4 (fun f => rfl) (fun c => ?_) (fun c => ?_)
  · have c9 : a0 < (-1000000000 : Int64) := (of_decide_eq_true ((zcL_lt _ _).symm.trans c))
    replace H := H.1 c9
    refine zW_gh 27 [some (.ref 1), some (.long a0), none, some (.long a1), none] [.int (0 : Int32)] 1 (fun f => rfl) ?_
    exact zW_rh (some (.int (0 : Int32))) 1 (fun f => rfl) H
  · have c9 : ¬ a0 < (-1000000000 : Int64) := (of_decide_eq_false ((zcL_lt _ _).symm.trans c))
    replace H := H.2 c9
    refine zW_bh (zcmp .gt (lg_cmp a0 (1000000000 : Int64)) (0 : Int32)) 26 16 [some (.ref 1), some (.long a0), none, some (.long a1), none] [] 4 (fun f => rfl) (fun c => ?_) (fun c => ?_)
    · have c9 : (1000000000 : Int64) < a0 := (of_decide_eq_true ((zcL_gt _ _).symm.trans c))
      replace H := H.1 c9
      refine zW_gh 27 [some (.ref 1), some (.long a0), none, some (.long a1), none] [.int (0 : Int32)] 1 (fun f => rfl) ?_
      exact zW_rh (some (.int (0 : Int32))) 1 (fun f => rfl) H
    · have c9 : ¬ (1000000000 : Int64) < a0 := (of_decide_eq_false ((zcL_gt _ _).symm.trans c))
      replace H := H.2 c9
      refine zW_bh (zcmp .ne (lg_cmp a1 (0 : Int64)) (0 : Int32)) 26 22 [some (.ref 1), some (.long a0), none, some (.long a1), none] [] 4 (fun f => rfl) (fun c => ?_) (fun c => ?_)
      · have c9 : ¬ a1 = (0 : Int64) := (by rw [zcL_ne] at c; simpa using c)
        replace H := H.1 c9
        refine zW_gh 27 [some (.ref 1), some (.long a0), none, some (.long a1), none] [.int (0 : Int32)] 1 (fun f => rfl) ?_
        exact zW_rh (some (.int (0 : Int32))) 1 (fun f => rfl) H
      · have c9 : a1 = (0 : Int64) := (by rw [zcL_ne] at c; simpa using c)
        replace H := H.2 c9
        refine zW_gh 27 [some (.ref 1), some (.long a0), none, some (.long a1), none] [.int (1 : Int32)] 2 (fun f => rfl) ?_
        exact zW_rh (some (.int (1 : Int32))) 1 (fun f => rfl) H
theorem s16 {P : zPt} {T : Nat → zX} {Y : zYt} {I : zIt} {A : zAt} {w : Nat → Int64} {p : Nat × Nat} {Q : zR → zH → Prop} {a b : Int64} (H : Q (.inl (some (.int (zbi (zir0 a b))))) (zh (P, T, Y) I A w)) : zT zm_16 [.ref 1, .long a, .long b] p (zh (P, T, Y) I A w) Q := by
  refine b16 ⟨fun h => zQf ?_ H, fun h => ⟨fun h2 => zQf ?_ H, fun h2 => ⟨fun h3 => zQf ?_ H, fun h3 => zQt ?_ H⟩⟩⟩
  · simp only [zir0, zin_not.mpr (Or.inl h), Bool.false_and]
  · simp only [zir0, zin_not.mpr (Or.inr h2), Bool.false_and]
  · simp only [zir0, decide_eq_false h3, Bool.and_false]
  · simp only [zir0, zin, decide_eq_true (zL_nlt.mp h), decide_eq_true (zL_nlt.mp h2), decide_eq_true h3, Bool.and_true]
