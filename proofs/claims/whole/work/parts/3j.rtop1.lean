/-! THE REFERENCE'S CALLS: create, set, copy, ring, rows, columns, steps, entry, swap, add, scale, back, hermite, smith, step, entryAfter -/
def zRmb (m : Nat → Int32) (a : Nat) (o : Option zMt) : Prop := match o with
  | none => m (1068 * a) = -1
  | some X => zRb m (1068 * a) X.1 X.2.1 X.2.2.1 X.2.2.2.1 X.2.2.2.2
def zRS (m : Nat → Int32) (S : zSs) : Prop := ∀ a, a < 3 → zRmb m a (S a)
def zRH (K : zKt) (J : zJt) (B : zBt) (w : Nat → Int64) (m : Nat → Int32) (code : Int32) (h : zH) : Prop := ∃ rf rs bad pr pn pa pb pc vf vs, h = zh K (code, rf, rs, bad, pr, pn, J) (m, pa, pb, pc, vf, vs, B) w
def zcd {α : Type} (l : List Nat) (x : α ⊕ Nat) : Int32 := match x with
  | .inl _ => 0
  | .inr e => Int32.ofNat (l.idxOf e + 1)
def zrv (x : Int32 ⊕ Nat) : Int32 := match x with
  | .inl v => v
  | .inr _ => 0
theorem zRS_fr {m m' : Nat → Int32} {S : zSs} {β : Nat} (hR : zRS m S) (hw : zSw S) (hf : zfr β m m') (hβ : 3204 ≤ β) : zRS m' S := by
  intro a ha
  have h := hR a ha
  cases hS : S a with
  | none =>
    rw [hS] at h
    exact (hf _ (Or.inl (by omega))).trans h
  | some X =>
    rw [hS] at h
    exact zRb_eq (fun k _ _ => hf k (Or.inl (by omega))) (hw a X ha hS).2.1 h
theorem zRS_up {m m' : Nat → Int32} {S : zSs} {k : Nat} {X : zMt} (hR : zRS m S) (hw : zSw S) (hf : zfr (1068 * k) m m') (hX : zRb m' (1068 * k) X.1 X.2.1 X.2.2.1 X.2.2.2.1 X.2.2.2.2) : zRS m' (zup S k X) := by
  intro a ha
  unfold zup
  by_cases hk : a = k
  · subst hk; rw [va_up_self]; exact hX
  · rw [va_up_ne _ _ hk]
    have h := hR a ha
    cases hS : S a with
    | none =>
      rw [hS] at h
      exact (hf _ (by omega)).trans h
    | some Y =>
      rw [hS] at h
      exact zRb_eq (fun j _ _ => hf j (by omega)) (hw a Y ha hS).2.1 h
theorem zRS_b {m : Nat → Int32} {S : zSs} {k : Nat} {X : zMt} (hR : zRS m S) (hk : k < 3) (e : S k = some X) : zRb m (1068 * k) X.1 X.2.1 X.2.2.1 X.2.2.2.1 X.2.2.2.2 := by
  have h := hR k hk
  rw [e] at h
  exact h
theorem zRS_e {m : Nat → Int32} {S : zSs} {k : Nat} (hR : zRS m S) (hw : zSw S) (hk : k < 3) : decide (m (1068 * k) = -1) = (S k).isNone := by
  have h := hR k hk
  cases e : S k with
  | none => rw [e] at h; exact decide_eq_true h
  | some X =>
    rw [e] at h
    refine decide_eq_false ?_
    rw [h.1.1]
    exact zob_n (zrg_lt (hw k X hk e).1.1)
theorem zRS_n {m : Nat → Int32} {S : zSs} {k : Nat} (hR : zRS m S) (hw : zSw S) (hk : k < 3) (c : decide (m (1068 * k) = -1) = true) : S k = none := by
  rw [zRS_e hR hw hk] at c
  exact Option.isNone_iff_eq_none.mp c
theorem zRS_s {m : Nat → Int32} {S : zSs} {k : Nat} (hR : zRS m S) (hw : zSw S) (hk : k < 3) (c : decide (m (1068 * k) = -1) = false) : ∃ X, S k = some X := by
  rw [zRS_e hR hw hk] at c
  cases e : S k with
  | none => rw [e] at c; cases c
  | some X => exact ⟨X, rfl⟩
theorem zin_1 {n : Nat} {x : Int32} (h1 : 1 ≤ n) (h2 : n < 2147483648) : zin x.toInt64 0 (Int32.ofNat n - 1).toInt64 = zlin n x := by
  rw [Bool.eq_iff_iff, zin_iff, Int32.toInt_toInt64, Int32.toInt_toInt64, show Int32.ofNat n - 1 = Int32.ofNat (n - 1) from zN_sb rfl rfl h1, zN_i (by omega), show Int64.toInt 0 = 0 from rfl]
  unfold zlin
  rw [decide_eq_true_iff]
  omega
theorem zhasE_e {m : Nat → Int32} {n r h d : Nat} {x y : Int32} (hsh : zsh r h d) (hh : zRh m (1068 * n) r h d) : zhasE m n x y = zcel h d x y := by
  obtain ⟨_, h1, h2, h3, h4⟩ := hsh
  unfold zhasE
  rw [hh.2.1, hh.2.2, zin_1 h1 (by omega), zin_1 h3 (by omega)]
  unfold zlin zcel
  rw [Bool.eq_iff_iff, Bool.and_eq_true, decide_eq_true_iff, decide_eq_true_iff, decide_eq_true_iff]
  exact ⟨fun h => ⟨h.1.1, h.1.2, h.2.1, h.2.2⟩, fun h => ⟨⟨h.1, h.2.1⟩, h.2.2⟩⟩
theorem zareL_c {m : Nat → Int32} {n r h d : Nat} {c : Bool} {x y : Int32} (hsh : zsh r h d) (hh : zRh m (1068 * n) r h d) : zareL m n c x y = (zlin (zll h d c) x && zlin (zll h d c) y) := by
  obtain ⟨_, h1, h2, h3, h4⟩ := hsh
  unfold zareL
  cases c
  · rw [show m (1068 * n + (bif false then 2 else 1)) = Int32.ofNat h from hh.2.1, zin_1 h1 (by omega), zin_1 h1 (by omega)]; rfl
  · rw [show m (1068 * n + (bif true then 2 else 1)) = Int32.ofNat d from hh.2.2, zin_1 h3 (by omega), zin_1 h3 (by omega)]; rfl
theorem zlin_f {n : Nat} {x : Int32} : zlin n x = false ↔ ¬ (0 ≤ x.toInt ∧ x.toInt < (n : Int)) := by unfold zlin; rw [decide_eq_false_iff_not]
theorem zN_e {a b : Nat} (ha : a < 2147483648) (hb : b < 2147483648) : Int32.ofNat a = Int32.ofNat b ↔ a = b := ⟨fun h => zN_inj ha hb h, fun h => by rw [h]⟩
/-- the end of a call -/
theorem zfin {K : zKt} {J : zJt} {B : zBt} {w : Nat → Int64} {Q : zR → zH → Prop} {S S' : zSs} {l : List Nat} {x : Int32 ⊕ Nat} {f : (Int32 ⊕ Nat) × zSs} (H : ∀ m' h', zRS m' f.2 → zRH K J B w m' (zcd l f.1) h' → Q (.inl (some (.int (zrv f.1)))) h') (e : f = (x, S')) : ∀ m' h', zRS m' S' → zRH K J B w m' (zcd l x) h' → Q (.inl (some (.int (zrv x)))) h' := by
  subst e; exact H
theorem r_create {K : zKt} {code rf rs pr pn : Int32} {bad : Bool} {J : zJt} {m pa pb pc vf vs : Nat → Int32} {B : zBt} {w : Nat → Int64} {p : Nat × Nat} {Q : zR → zH → Prop} {S : zSs} {a0 a1 a2 a3 : Int32} (hw : zSw S) (hR : zRS m S) (H : ∀ m' h', zRS m' (zc_create S a0 a1 a2 a3).2 → zRH K J B w m' (zcd [0, 2] (zc_create S a0 a1 a2 a3).1) h' → Q (.inl (some (.int (zrv (zc_create S a0 a1 a2 a3).1)))) h') :
    zT zm_139 [.ref 75, .int a0, .int a1, .int a2, .int a3] p (zh K (code, rf, rs, bad, pr, pn, J) (m, pa, pb, pc, vf, vs, B) w) Q := by
  have bad2 : zslot a0 = true → (zisr a1 = false ∨ zin a2.toInt64 1 4 = false ∨ zin a3.toInt64 1 4 = false) → Q (.inl (some (.int (0 : Int32)))) (zh K ((2 : Int32), rf, rs, bad, pr, pn, J) (m, pa, pb, pc, vf, vs, B) w) := by
    intro c0 c
    have e : zc_create S a0 a1 a2 a3 = (.inr 2, S) := by unfold zc_create; rw [if_neg (by rw [c0]; decide), if_pos c]
    exact zfin (S := S) H e m _ hR ⟨_, _, _, _, _, _, _, _, _, _, rfl⟩
  refine b139 ⟨fun c0 k hk ek => ⟨fun c1 => bad2 c0 (Or.inl c1), fun c1 k1 hk1 ek1 => ⟨fun c2 => bad2 c0 (Or.inr (Or.inl c2)), fun c2 k2 hk2 ek2 => ⟨fun c3 k3 hk3 ek3 => ⟨by omega, ?_⟩, fun c3 => bad2 c0 (Or.inr (Or.inr c3))⟩⟩⟩, fun c0 => ?_⟩
  · have e : zc_create S a0 a1 a2 a3 = (.inl (if (S k).isNone = true then 1 else 0), zup S k (k1, k2, k3, zZ, (0, zZ, zg0))) := by
      unfold zc_create
      rw [if_neg (by rw [c0]; decide), if_neg (by rw [c1, c2, c3]; decide), ek, ek1, ek2, ek3, znn_o (by omega), znn_o (zrg_lt hk1), znn_o (by omega), znn_o (by omega)]
    have go : ∀ m', zfr (1068 * k) m m' → (∀ g, zRb m' (1068 * k) k1 k2 k3 zZ (0, zZ, g)) → zRS m' (zup S k (k1, k2, k3, zZ, (0, zZ, zg0))) := fun m' f1 f2 => zRS_up hR hw f1 (f2 zg0)
    have hS := zRS_e hR hw hk
    rw [z1068]
    refine ⟨fun c => ?_, fun c => ?_⟩
    · rw [hS] at c
      rw [c] at e
      exact s145 (by omega) (fun m' f1 f2 => b139_84 (zfin (S := S) H e m' _ (go m' f1 f2) ⟨_, _, _, _, _, _, _, _, _, _, rfl⟩))
    · rw [hS] at c
      rw [c] at e
      exact s145 (by omega) (fun m' f1 f2 => b139_84 (zfin (S := S) H e m' _ (go m' f1 f2) ⟨_, _, _, _, _, _, _, _, _, _, rfl⟩))
  · have e : zc_create S a0 a1 a2 a3 = (.inr 0, S) := by unfold zc_create; rw [if_pos c0]
    exact zfin (S := S) H e m _ hR ⟨_, _, _, _, _, _, _, _, _, _, rfl⟩
/-- no -/
theorem s169 {K : zKt} {code rf rs pr pn : Int32} {bad : Bool} {J : zJt} {m pa pb pc vf vs : Nat → Int32} {B : zBt} {w : Nat → Int64} {p : Nat × Nat} {Q : zR → zH → Prop} {S : zSs} {a0 : Int32} (hw : zSw S) (hR : zRS m S) (H0 : zslot a0 = false → Q (.inl (some (.int (1 : Int32)))) (zh K ((0 : Int32), rf, rs, bad, pr, pn, J) (m, pa, pb, pc, vf, vs, B) w)) (H1 : ∀ k, k < 3 → a0 = Int32.ofNat k → zslot a0 = true → S k = none → Q (.inl (some (.int (2 : Int32)))) (zh K ((0 : Int32), rf, rs, bad, pr, pn, J) (m, pa, pb, pc, vf, vs, B) w))
    (H2 : ∀ k X, k < 3 → a0 = Int32.ofNat k → zslot a0 = true → S k = some X → Q (.inl (some (.int (0 : Int32)))) (zh K ((0 : Int32), rf, rs, bad, pr, pn, J) (m, pa, pb, pc, vf, vs, B) w)) : zT zm_169 [.ref 75, .int a0] p (zh K (code, rf, rs, bad, pr, pn, J) (m, pa, pb, pc, vf, vs, B) w) Q := by
  refine b169 ⟨fun c0 k hk ek => ⟨by omega, fun c => ?_, fun c => ?_⟩, H0⟩
  · obtain ⟨X, e⟩ := zRS_s hR hw hk c
    exact H2 k X hk ek c0 e
  · exact H1 k hk ek c0 (zRS_n hR hw hk c)
theorem zwith_0 {α : Type} {S : zSs} {a0 : Int32} {f : zMt → (α ⊕ Nat) × zSs} (c : zslot a0 = false) : zwith S a0 f = (.inr 0, S) := by unfold zwith; rw [if_pos c]
theorem zwith_1 {α : Type} {S : zSs} {a0 : Int32} {k : Nat} {f : zMt → (α ⊕ Nat) × zSs} (c : zslot a0 = true) (hk : k < 3) (ek : a0 = Int32.ofNat k) (e : S k = none) : zwith S a0 f = (.inr 1, S) := by
  unfold zwith
  rw [if_neg (by rw [c]; decide), ek, znn_o (by omega), e]
theorem zwith_2 {α : Type} {S : zSs} {a0 : Int32} {k : Nat} {X : zMt} {f : zMt → (α ⊕ Nat) × zSs} (c : zslot a0 = true) (hk : k < 3) (ek : a0 = Int32.ofNat k) (e : S k = some X) : zwith S a0 f = f X := by
  unfold zwith
  rw [if_neg (by rw [c]; decide), ek, znn_o (by omega), e]
theorem r_set {K : zKt} {code rf rs pr pn : Int32} {bad : Bool} {J : zJt} {m pa pb pc vf vs : Nat → Int32} {B : zBt} {w : Nat → Int64} {p : Nat × Nat} {Q : zR → zH → Prop} {S : zSs} {a0 a1 a2 a3 a4 : Int32} (hw : zSw S) (hR : zRS m S) (H : ∀ m' h', zRS m' (zc_set S a0 a1 a2 a3 a4).2 → zRH K J B w m' (zcd [0, 1, 2] (zc_set S a0 a1 a2 a3 a4).1) h' → Q (.inl (some (.int (zrv (zc_set S a0 a1 a2 a3 a4).1)))) h') :
    zT zm_147 [.ref 75, .int a0, .int a1, .int a2, .int a3, .int a4] p (zh K (code, rf, rs, bad, pr, pn, J) (m, pa, pb, pc, vf, vs, B) w) Q := by
  refine b147 ⟨fun c0 k hk ek => ⟨by omega, fun c => ?_, fun c => ?_⟩, fun c0 => zfin (S := S) H (zwith_0 c0) m _ hR ⟨_, _, _, _, _, _, _, _, _, _, rfl⟩⟩
  · obtain ⟨X, e⟩ := zRS_s hR hw hk c
    have hX := hw k X hk e
    have hb := zRS_b hR hk e
    have k0 : m (1068 * k + 0) = Int32.ofNat X.1 := hb.1.1
    have h4 := hX.1.2.2.1
    have h5 := hX.1.2.2.2.2
    have bad2 : ¬ (zcel X.2.1 X.2.2.1 a1 a2 = true ∧ zise (Int32.ofNat X.1) a3 a4 = true) → Q (.inl (some (.int (0 : Int32)))) (zh K ((3 : Int32), rf, rs, bad, pr, pn, J) (m, pa, pb, pc, vf, vs, B) w) := by
      intro hn
      exact zfin (S := S) (x := .inr 2) (S' := S) H (by rw [zc_set, zwith_2 c0 hk ek e, if_neg hn]) m _ hR ⟨_, _, _, _, _, _, _, _, _, _, rfl⟩
    rw [zhasE_e hX.1 hb.1, k0]
    refine ⟨by omega, fun c1 => bad2 (fun h => by rw [c1] at h; cases h.1), fun c1 k1 hk1 ek1 k2 hk2 ek2 => ⟨by omega, fun c2 => ?_, fun c2 => bad2 (fun h => by rw [c2] at h; cases h.2)⟩⟩
    obtain ⟨x, y, hx, hy, ex, ey⟩ := zcel_n c1
    have : k1 = x := zN_inj hk1 (by omega) (ek1.symm.trans ex)
    subst this
    have : k2 = y := zN_inj hk2 (by omega) (ek2.symm.trans ey)
    subst this
    have em := hb.2.2.1 k1 k2 (by omega) (by omega)
    have hok := (zise_ok hX.1.1).mp c2
    refine ⟨by omega, by omega, ?_⟩
    rw [z1068]
    refine s146 (r := X.1) (h := X.2.1) (d := X.2.2.1) (E := zupE X.2.2.2.2.2.1 k1 k2 (a3, a4)) (by omega) (zRh_eq (fun j _ _ => zu2_n (by omega) (by omega)) hb.1) (fun i j hi hj => ?_) (fun m' f1 f2 => b147_110 ?_)
    · unfold zupE
      by_cases hij : i = k1 ∧ j = k2
      · obtain ⟨rfl, rfl⟩ := hij
        rw [if_pos ⟨rfl, rfl⟩, zu2_0, zu2_1]
        exact ⟨rfl, rfl⟩
      · rw [if_neg hij, zu2_n (by omega) (by omega), zu2_n (by omega) (by omega)]
        exact hb.2.2.1 i j hi hj
    · rw [em.1]
      refine zfin (S := S) (x := .inl (X.2.2.2.2.2.1 k1 k2).1) (S' := zup S k (X.1, X.2.1, X.2.2.1, zupE X.2.2.2.2.2.1 k1 k2 (a3, a4), (0, zupE X.2.2.2.2.2.1 k1 k2 (a3, a4), zg0))) H ?_ m' _ (zRS_up hR hw (fun j hj => ?_) (f2 zg0)) ⟨_, _, _, _, _, _, _, _, _, _, rfl⟩
      · rw [zc_set, zwith_2 c0 hk ek e, if_pos ⟨c1, c2⟩, ek, ek1, ek2, znn_o hk1, znn_o hk2, znn_o (k := k) (by omega)]
      · rw [f1 j hj, zu2_n (by omega) (by omega)]
  · exact zfin (S := S) H (zwith_1 c0 hk ek (zRS_n hR hw hk c)) m _ hR ⟨_, _, _, _, _, _, _, _, _, _, rfl⟩
theorem r_copy {K : zKt} {code rf rs pr pn : Int32} {bad : Bool} {J : zJt} {m pa pb pc vf vs : Nat → Int32} {B : zBt} {w : Nat → Int64} {p : Nat × Nat} {Q : zR → zH → Prop} {S : zSs} {a0 a1 : Int32} (hw : zSw S) (hR : zRS m S) (H : ∀ m' h', zRS m' (zc_copy S a0 a1).2 → zRH K J B w m' (zcd [0, 1] (zc_copy S a0 a1).1) h' → Q (.inl (some (.int (zrv (zc_copy S a0 a1).1)))) h') :
    zT zm_153 [.ref 75, .int a0, .int a1] p (zh K (code, rf, rs, bad, pr, pn, J) (m, pa, pb, pc, vf, vs, B) w) Q := by
  have bad0 : (zslot a0 = false ∨ zslot a1 = false) → Q (.inl (some (.int (0 : Int32)))) (zh K ((1 : Int32), rf, rs, bad, pr, pn, J) (m, pa, pb, pc, vf, vs, B) w) := by
    intro c
    exact zfin (S := S) (x := .inr 0) (S' := S) H (by rw [zc_copy, if_pos c]) m _ hR ⟨_, _, _, _, _, _, _, _, _, _, rfl⟩
  refine b153 ⟨fun c0 => bad0 (Or.inl c0), fun c0 k hk ek => ⟨fun c1 k1 hk1 ek1 => ⟨by omega, fun c => ?_, fun c => ?_⟩, fun c1 => bad0 (Or.inr c1)⟩⟩
  · obtain ⟨X, e⟩ := zRS_s hR hw hk c
    have hX := hw k X hk e
    rw [z1068, z1068]
    refine s154 (by omega) (by omega) (by omega) (fun m' f1 f2 => b153_53 ⟨by omega, ?_⟩)
    have hb := zRb_cp f2 hX.2.1 (zRS_b hR hk e)
    rw [hb.2.1]
    exact zfin (S := S) (x := .inl (Int32.ofNat X.2.2.2.2.1)) (S' := zup S k1 X) H (by rw [zc_copy, if_neg (by rw [c0, c1]; decide), ek, ek1, znn_o (by omega), znn_o (by omega), e]) m' _ (zRS_up hR hw f1 hb) ⟨_, _, _, _, _, _, _, _, _, _, rfl⟩
  · exact zfin (S := S) (x := .inr 1) (S' := S) H (by rw [zc_copy, if_neg (by rw [c0, c1]; decide), ek, znn_o (by omega), zRS_n hR hw hk c]) m _ hR ⟨_, _, _, _, _, _, _, _, _, _, rfl⟩
theorem r_of {K : zKt} {code rf rs pr pn : Int32} {bad : Bool} {J : zJt} {m pa pb pc vf vs : Nat → Int32} {B : zBt} {w : Nat → Int64} {p : Nat × Nat} {Q : zR → zH → Prop} {S : zSs} {a0 : Int32} {q : Nat} {v : Int32} {f : zMt → Nat} (hw : zSw S) (hR : zRS m S) (hq : q < 4) (hf : ∀ k X, k < 3 → S k = some X → m (1068 * k + q) = Int32.ofNat (f X)) (H : ∀ m' h', zRS m' (zc_of S a0 f v).2 → zRH K J B w m' (zcd [0] (zc_of S a0 f v).1) h' → Q (.inl (some (.int (zrv (zc_of S a0 f v).1)))) h') :
    zT zm_164 [.ref 75, .int a0, .int (Int32.ofNat q), .int v] p (zh K (code, rf, rs, bad, pr, pn, J) (m, pa, pb, pc, vf, vs, B) w) Q := by
  refine b164 ⟨fun c0 k hk ek => ⟨by omega, fun c => ⟨by omega, ?_⟩, fun c => ?_⟩, fun c0 => ?_⟩
  · obtain ⟨X, e⟩ := zRS_s hR hw hk c
    rw [hf k X hk e]
    exact zfin (S := S) (x := .inl (Int32.ofNat (f X))) (S' := S) H (by rw [zc_of, if_neg (by rw [c0]; decide), ek, znn_o (by omega), e]) m _ hR ⟨_, _, _, _, _, _, _, _, _, _, rfl⟩
  · exact zfin (S := S) (x := .inl v) (S' := S) H (by rw [zc_of, if_neg (by rw [c0]; decide), ek, znn_o (by omega), zRS_n hR hw hk c]) m _ hR ⟨_, _, _, _, _, _, _, _, _, _, rfl⟩
  · exact zfin (S := S) (x := .inr 0) (S' := S) H (by rw [zc_of, if_pos c0]) m _ hR ⟨_, _, _, _, _, _, _, _, _, _, rfl⟩
theorem r_ring {K : zKt} {code rf rs pr pn : Int32} {bad : Bool} {J : zJt} {m pa pb pc vf vs : Nat → Int32} {B : zBt} {w : Nat → Int64} {p : Nat × Nat} {Q : zR → zH → Prop} {S : zSs} {a0 : Int32} (hw : zSw S) (hR : zRS m S) (H : ∀ m' h', zRS m' (zc_of S a0 (fun X => X.1) (-1)).2 → zRH K J B w m' (zcd [0] (zc_of S a0 (fun X => X.1) (-1)).1) h' → Q (.inl (some (.int (zrv (zc_of S a0 (fun X => X.1) (-1)).1)))) h') : zT zm_163 [.ref 75, .int a0] p (zh K (code, rf, rs, bad, pr, pn, J) (m, pa, pb, pc, vf, vs, B) w) Q :=
  b163 (r_of (q := 0) (f := fun X => X.1) hw hR (by decide) (fun k X hk e => (zRS_b hR hk e).1.1) (fun m' h' g1 g2 => by obtain ⟨_, _, _, _, _, _, _, _, _, _, rfl⟩ := g2; exact b163_7 (H m' _ g1 ⟨_, _, _, _, _, _, _, _, _, _, rfl⟩)))
theorem r_rows {K : zKt} {code rf rs pr pn : Int32} {bad : Bool} {J : zJt} {m pa pb pc vf vs : Nat → Int32} {B : zBt} {w : Nat → Int64} {p : Nat × Nat} {Q : zR → zH → Prop} {S : zSs} {a0 : Int32} (hw : zSw S) (hR : zRS m S) (H : ∀ m' h', zRS m' (zc_of S a0 (fun X => X.2.1) 0).2 → zRH K J B w m' (zcd [0] (zc_of S a0 (fun X => X.2.1) 0).1) h' → Q (.inl (some (.int (zrv (zc_of S a0 (fun X => X.2.1) 0).1)))) h') : zT zm_165 [.ref 75, .int a0] p (zh K (code, rf, rs, bad, pr, pn, J) (m, pa, pb, pc, vf, vs, B) w) Q :=
  b165 (r_of (q := 1) (f := fun X => X.2.1) hw hR (by decide) (fun k X hk e => (zRS_b hR hk e).1.2.1) (fun m' h' g1 g2 => by obtain ⟨_, _, _, _, _, _, _, _, _, _, rfl⟩ := g2; exact b165_7 (H m' _ g1 ⟨_, _, _, _, _, _, _, _, _, _, rfl⟩)))
theorem r_columns {K : zKt} {code rf rs pr pn : Int32} {bad : Bool} {J : zJt} {m pa pb pc vf vs : Nat → Int32} {B : zBt} {w : Nat → Int64} {p : Nat × Nat} {Q : zR → zH → Prop} {S : zSs} {a0 : Int32} (hw : zSw S) (hR : zRS m S) (H : ∀ m' h', zRS m' (zc_of S a0 (fun X => X.2.2.1) 0).2 → zRH K J B w m' (zcd [0] (zc_of S a0 (fun X => X.2.2.1) 0).1) h' → Q (.inl (some (.int (zrv (zc_of S a0 (fun X => X.2.2.1) 0).1)))) h') : zT zm_166 [.ref 75, .int a0] p (zh K (code, rf, rs, bad, pr, pn, J) (m, pa, pb, pc, vf, vs, B) w) Q :=
  b166 (r_of (q := 2) (f := fun X => X.2.2.1) hw hR (by decide) (fun k X hk e => (zRS_b hR hk e).1.2.2) (fun m' h' g1 g2 => by obtain ⟨_, _, _, _, _, _, _, _, _, _, rfl⟩ := g2; exact b166_7 (H m' _ g1 ⟨_, _, _, _, _, _, _, _, _, _, rfl⟩)))
theorem r_steps {K : zKt} {code rf rs pr pn : Int32} {bad : Bool} {J : zJt} {m pa pb pc vf vs : Nat → Int32} {B : zBt} {w : Nat → Int64} {p : Nat × Nat} {Q : zR → zH → Prop} {S : zSs} {a0 : Int32} (hw : zSw S) (hR : zRS m S) (H : ∀ m' h', zRS m' (zc_of S a0 (fun X => X.2.2.2.2.1) 0).2 → zRH K J B w m' (zcd [0] (zc_of S a0 (fun X => X.2.2.2.2.1) 0).1) h' → Q (.inl (some (.int (zrv (zc_of S a0 (fun X => X.2.2.2.2.1) 0).1)))) h') : zT zm_167 [.ref 75, .int a0] p (zh K (code, rf, rs, bad, pr, pn, J) (m, pa, pb, pc, vf, vs, B) w) Q :=
  b167 (r_of (q := 3) (f := fun X => X.2.2.2.2.1) hw hR (by decide) (fun k X hk e => (zRS_b hR hk e).2.1) (fun m' h' g1 g2 => by obtain ⟨_, _, _, _, _, _, _, _, _, _, rfl⟩ := g2; exact b167_7 (H m' _ g1 ⟨_, _, _, _, _, _, _, _, _, _, rfl⟩)))
/-- the cases of a call that begins with no -/
theorem zpar_v {m : Nat → Int32} {A k : Nat} {e : zE2} {x : Int32} (h : m A = e.1 ∧ m (A + 1) = e.2) (hk : k ≤ 1) (ex : x = Int32.ofNat k) : m (A + k) = zpv e x := by
  have : k = 0 ∨ k = 1 := by omega
  unfold zpv
  rcases this with rfl | rfl
  · rw [if_pos (by rw [ex]; rfl)]; exact h.1
  · rw [if_neg (by rw [ex]; decide)]; exact h.2
theorem r_entry {K : zKt} {code rf rs pr pn : Int32} {bad : Bool} {J : zJt} {m pa pb pc vf vs : Nat → Int32} {B : zBt} {w : Nat → Int64} {p : Nat × Nat} {Q : zR → zH → Prop} {S : zSs} {a0 a1 a2 a3 : Int32} (hw : zSw S) (hR : zRS m S) (H : ∀ m' h', zRS m' (zc_entry S a0 a1 a2 a3).2 → zRH K J B w m' (zcd [0, 1, 2] (zc_entry S a0 a1 a2 a3).1) h' → Q (.inl (some (.int (zrv (zc_entry S a0 a1 a2 a3).1)))) h') :
    zT zm_168 [.ref 75, .int a0, .int a1, .int a2, .int a3] p (zh K (code, rf, rs, bad, pr, pn, J) (m, pa, pb, pc, vf, vs, B) w) Q := by
  refine b168 (s169 hw hR (fun c0 => b168_5 ⟨fun h => absurd h (by decide), fun _ => zfin (S := S) H (zwith_0 c0) m _ hR ⟨_, _, _, _, _, _, _, _, _, _, rfl⟩⟩) (fun k hk ek c0 e => b168_5 ⟨fun h => absurd h (by decide), fun _ => zfin (S := S) H (zwith_1 c0 hk ek e) m _ hR ⟨_, _, _, _, _, _, _, _, _, _, rfl⟩⟩) (fun k X hk ek c0 e => ?_))
  have hX := hw k X hk e
  have hb := zRS_b hR hk e
  have h4 := hX.1.2.2.1
  have h5 := hX.1.2.2.2.2
  have bad2 : ¬ (zcel X.2.1 X.2.2.1 a1 a2 = true ∧ zpar a3 = true) → Q (.inl (some (.int (0 : Int32)))) (zh K ((3 : Int32), rf, rs, bad, pr, pn, J) (m, pa, pb, pc, vf, vs, B) w) := by
    intro hn
    exact zfin (S := S) (x := .inr 2) (S' := S) H (by rw [zc_entry, zwith_2 c0 hk ek e, if_neg hn]) m _ hR ⟨_, _, _, _, _, _, _, _, _, _, rfl⟩
  refine b168_5 ⟨fun _ => ⟨k, ek, by omega, ?_⟩, fun h => absurd (by decide) h⟩
  rw [zhasE_e hX.1 hb.1]
  refine ⟨fun c1 => bad2 (fun h => by rw [c1] at h; cases h.1), fun c1 k1 hk1 ek1 k2 hk2 ek2 => ⟨fun c2 k3 hk3 ek3 => ?_, fun c2 => bad2 (fun h => by unfold zpar at h; rw [c2] at h; cases h.2)⟩⟩
  obtain ⟨x, y, hx, hy, ex, ey⟩ := zcel_n c1
  have : k1 = x := zN_inj hk1 (by omega) (ek1.symm.trans ex)
  subst this
  have : k2 = y := zN_inj hk2 (by omega) (ek2.symm.trans ey)
  subst this
  refine ⟨1068 * k + 4 + 8 * k1 + 2 * k2 + k3, zN_a (zN_a (zN_a (zN_a (zN_m rfl ek) rfl) (zN_m rfl rfl)) (zN_m rfl rfl)) rfl, by omega, ?_⟩
  rw [zpar_v (hb.2.2.1 k1 k2 (by omega) (by omega)) hk3.2 ek3]
  exact zfin (S := S) (x := .inl (zpv (X.2.2.2.2.2.1 k1 k2) a3)) (S' := S) H (by rw [zc_entry, zwith_2 c0 hk ek e, if_pos ⟨c1, c2⟩, ek1, ek2, znn_o hk1, znn_o hk2]) m _ hR ⟨_, _, _, _, _, _, _, _, _, _, rfl⟩
/-- does -/
theorem s172 {K : zKt} {code rf rs pr pn : Int32} {bad : Bool} {J : zJt} {m pa pb pc vf vs : Nat → Int32} {B : zBt} {w : Nat → Int64} {p : Nat × Nat} {Q : zR → zH → Prop} {S : zSs} {k : Nat} {X : zMt} {s : zSt} {jj : Int32} (hw : zSw S) (hR : zRS m S) (hk : k < 3) (e : S k = some X) (hs : zsv X.1 X.2.1 X.2.2.1 s) (hj : s.1 % 3 ≠ 2 → jj = Int32.ofNat s.2.2.1)
    (H1 : ∀ τ, zdo X.1 X.2.1 X.2.2.1 s X.2.2.2.2 = some τ → ∀ m' h', zRS m' (zup S k (X.1, X.2.1, X.2.2.1, X.2.2.2.1, τ)) → zRH K J B w m' code h' → Q (.inl (some (.int (Int32.ofNat τ.1)))) h') (H2 : zdo X.1 X.2.1 X.2.2.1 s X.2.2.2.2 = none → ∀ m' h', zRS m' S → zRH K J B w m' 4 h' → Q (.inl (some (.int 0))) h') :
    zT zm_172 [.ref 75, .int (Int32.ofNat k), .int (Int32.ofNat s.1), .int (Int32.ofNat s.2.1), .int jj, .int s.2.2.2.1, .int s.2.2.2.2] p (zh K (code, rf, rs, bad, pr, pn, J) (m, pa, pb, pc, vf, vs, B) w) Q := by
  have hX := hw k X hk e
  have hb := zRS_b hR hk e
  refine b172 (s173 hk (fun m1 f1 f2 => b172_5 ?_))
  have hb1 := zRb_cp f2 hX.2.1 hb
  have hR1 := zRS_fr hR hw f1 (by omega)
  refine s174g (β := 3204) (o := some X.2.2.2.2) hX.1 (by omega) (⟨rfl, hb1, hX.2⟩ : zGB false m1 3204 X.1 X.2.1 X.2.2.1 X.2.2.2.1 (some X.2.2.2.2)) (fun _ => hs) hj (fun rf' rs' pa' pb' pc' m2 bad2 g1 g2 => b172_20 ?_)
  have hR2 := zRS_fr hR1 hw g1 (by omega)
  rw [Option.bind_some] at g2
  cases hd : zdo X.1 X.2.1 X.2.2.1 s X.2.2.2.2 with
  | none =>
    rw [hd] at g2
    obtain ⟨rfl, _⟩ := g2
    exact s162 hk (fun h => (by cases h)) (fun _ => b172_34 (H2 hd m2 _ hR2 ⟨_, _, _, _, _, _, _, _, _, _, rfl⟩))
  | some τ =>
    rw [hd] at g2
    obtain ⟨rfl, hb2, hw2⟩ := g2
    refine s162 hk (fun _ m3 k1 k2 => b172_34 ?_) (fun h => (by cases h))
    rw [show m2 3207 = Int32.ofNat τ.1 from hb2.2.1]
    exact H1 τ hd m3 _ (zRS_up hR2 hw k1 (zRb_cp k2 hw2.1 hb2)) ⟨_, _, _, _, _, _, _, _, _, _, rfl⟩
