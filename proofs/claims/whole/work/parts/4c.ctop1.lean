/-! THE CLASS'S CALLS: create, set, copy, ring, rows, columns, steps, entry, swap, add, scale, hermite, smith, step, entryAfter -/
def zCm (X : zX) (o : Option zMt) : Prop := match o with
  | none => X.2.1 = 0 ∧ X.2.2.1 = 0 ∧ X.2.2.2.1 = 0
  | some M => zCX X M.1 M.2.1 M.2.2.1 M.2.2.2.1 M.2.2.2.2
def zCS (T : Nat → zX) (S : zSs) : Prop := (∀ a, a < 3 → zCm (T a) (S a)) ∧ zTb T
def zCH (Y : zYt) (I : zIt) (A : zAt) (w : Nat → Int64) (T : Nat → zX) (h : zH) : Prop := ∃ P, h = zh (P, T, Y) I A w
def zRo (x : Int32 ⊕ Nat) : zR := match x with
  | .inl v => .inl (some (.int v))
  | .inr e => .inr e
theorem zCS_x {T : Nat → zX} {S : zSs} {k : Nat} {X : zMt} (h : zCS T S) (hk : k < 3) (e : S k = some X) : zCX (T k) X.1 X.2.1 X.2.2.1 X.2.2.2.1 X.2.2.2.2 := by
  have := h.1 k hk
  rw [e] at this
  exact this
theorem zCS_up {T T' : Nat → zX} {S : zSs} {k : Nat} {X : zMt} (h : zCS T S) (hf : zTo k T T') (hX : zCX (T' k) X.1 X.2.1 X.2.2.1 X.2.2.2.1 X.2.2.2.2) (hm : zmw X) : zCS T' (zup S k X) := by
  refine ⟨fun a ha => ?_, fun j => ?_⟩
  · unfold zup
    by_cases hak : a = k
    · subst hak; rw [va_up_self]; exact hX
    · rw [va_up_ne _ _ hak, hf a hak]; exact h.1 a ha
  · by_cases hjk : j = k
    · subst hjk; exact zCX_b hm.1 hm.2 hX
    · rw [hf j hjk]; exact h.2 j
theorem zCS_w {T T' : Nat → zX} {S : zSs} {i : Nat} (h : zCS T S) (hf : zTo i T T') (hi : 3 ≤ i) (hX : zXb (T' i)) : zCS T' S := by
  refine ⟨fun a ha => ?_, fun j => ?_⟩
  · rw [hf a (by omega)]; exact h.1 a ha
  · by_cases hji : j = i
    · subst hji; exact hX
    · rw [hf j hji]; exact h.2 j
theorem zCS_s {T T' : Nat → zX} {S : zSs} {k : Nat} {X : zMt} (h : zCS T S) (hk : k < 3) (e : S k = some X) (hf : zTo k T T') (hX : zCX (T' k) X.1 X.2.1 X.2.2.1 X.2.2.2.1 X.2.2.2.2) (hm : zmw X) : zCS T' S := by
  refine ⟨fun a ha => ?_, fun j => ?_⟩
  · by_cases hak : a = k
    · subst hak; rw [e]; exact hX
    · rw [hf a hak]; exact h.1 a ha
  · by_cases hjk : j = k
    · subst hjk; exact zCX_b hm.1 hm.2 hX
    · rw [hf j hjk]; exact h.2 j
theorem zCS_0 {T : Nat → zX} {S : zSs} {k : Nat} (h : zCS T S) (hw : zSw S) (hk : k < 3) : decide ((T k).2.1 = 0) = (S k).isNone := by
  have h1 := h.1 k hk
  cases e : S k with
  | none => rw [e] at h1; exact decide_eq_true h1.1
  | some X =>
    rw [e] at h1
    have := (hw k X hk e).1.2.1
    have h2 := h1.1.2.1
    exact decide_eq_false (by omega)
theorem zfil_k {T : Nat → zX} {S : zSs} {k : Nat} {a0 : Int32} (h : zCS T S) (hk : k < 3) (ek : a0 = Int32.ofNat k) (hf : zfil T a0) : ∃ X, S k = some X := by
  have h1 := h.1 k hk
  cases e : S k with
  | none =>
    rw [e] at h1
    unfold zfil at hf
    rw [ek, zN_cl (show k < 2147483648 by omega) (Nat.le_refl _)] at hf
    exact absurd h1.1 hf
  | some X => exact ⟨X, rfl⟩
theorem zfil_n {T : Nat → zX} {S : zSs} {a0 : Int32} (h : zCS T S) (hw : zSw S) (c : zslot a0 = true) (hf : ¬ zfil T a0) : ∃ k, k < 3 ∧ a0 = Int32.ofNat k ∧ S k = none := by
  obtain ⟨k, hk, ek⟩ := zslot_n c
  refine ⟨k, hk, ek, ?_⟩
  have h0 := zCS_0 h hw hk
  cases e : S k with
  | none => rfl
  | some X =>
    exfalso
    apply hf
    unfold zfil
    rw [ek, zN_cl (show k < 2147483648 by omega) (Nat.le_refl _)]
    rw [e] at h0
    exact of_decide_eq_false h0
theorem zcell_e {X : zX} {r h d : Nat} {x y : Int32} (hh : zCh X r h d) (h4 : h ≤ 4) (h5 : d ≤ 4) : zcell X x y = zcel h d x y := by
  unfold zcell zcel
  rw [hh.2.1, hh.2.2, Bool.eq_iff_iff, Bool.and_eq_true, Bool.and_eq_true, Bool.and_eq_true, decide_eq_true_iff, decide_eq_true_iff, decide_eq_true_iff, decide_eq_true_iff, decide_eq_true_iff, Int32.le_iff_toInt_le, Int32.le_iff_toInt_le, Int32.lt_iff_toInt_lt, Int32.lt_iff_toInt_lt, zN_i (by omega), zN_i (by omega), Int32.toInt_zero]
  exact ⟨fun hh => ⟨hh.1.1, hh.1.2, hh.2.1, hh.2.2⟩, fun hh => ⟨⟨hh.1, hh.2.1⟩, hh.2.2⟩⟩
theorem zisl_e {X : zX} {r h d : Nat} {c : Bool} {x : Int32} (hh : zCh X r h d) (h4 : h ≤ 4) (h5 : d ≤ 4) : zisl X c x = zlin (zll h d c) x := by
  have e : zlns X c = zll h d c := by cases c; exact hh.2.1; exact hh.2.2
  have hb : zll h d c ≤ 4 := by cases c <;> assumption
  unfold zisl zlin
  rw [e, Bool.eq_iff_iff, Bool.and_eq_true, decide_eq_true_iff, decide_eq_true_iff, decide_eq_true_iff, Int32.le_iff_toInt_le, Int32.lt_iff_toInt_lt, zN_i (by omega), Int32.toInt_zero]
theorem zprt_e {x : Int32} : zprt x = zpar x := by
  have t : (x = 0 ↔ x.toInt = 0) ∧ (x = 1 ↔ x.toInt = 1) := ⟨by rw [← Int32.toInt_inj]; rfl, by rw [← Int32.toInt_inj]; rfl⟩
  unfold zprt zpar
  rw [Bool.eq_iff_iff, Bool.or_eq_true, decide_eq_true_iff, decide_eq_true_iff, zin_iff, Int32.toInt_toInt64, t.1, t.2, show Int64.toInt 0 = 0 from rfl, show Int64.toInt 1 = 1 from rfl]
  omega
theorem zpo_e {e : zE2} {x : Int32} : zpo (zen e) x = zpv e x := by
  unfold zpo zpv
  rw [zfi_n, zse_n]
  by_cases h : x = 0
  · rw [decide_eq_true h, if_pos h]; rfl
  · rw [decide_eq_false h, if_neg h]; rfl
theorem z64_0 {s : Int32} : s.toInt64 = 0 ↔ s = 0 := by
  rw [← Int64.toInt_inj, Int32.toInt_toInt64, ← Int32.toInt_inj]; rfl
/-- isInRange -/
theorem c_inr {P : zPt} {T : Nat → zX} {Y : zYt} {I : zIt} {A : zAt} {w : Nat → Int64} {p : Nat × Nat} {Q : zR → zH → Prop} {r : Nat} {f s : Int32} (hr : zrg r) (H : Q (.inl (some (.int (zbi (zise (Int32.ofNat r) f s))))) (zh (P, T, Y) I A w)) : zT (zrm r zm_16 zm_1 zm_59) [.ref (zra r), .long f.toInt64, .long s.toInt64] p (zh (P, T, Y) I A w) Q := by
  rcases zrg_c hr with rfl | rfl | hq
  · refine s16 ?_
    have e : zir0 f.toInt64 s.toInt64 = zise (Int32.ofNat 0) f s := by
      unfold zir0 zise
      rw [show decide (Int32.ofNat 0 = 1) = false by decide, show decide (Int32.ofNat 0 = 0) = true by decide, cond_false, cond_true, Bool.and_comm, decide_eq_decide.mpr z64_0]
    rw [e]; exact H
  · refine s1 ?_
    have e : zir1 f.toInt64 s.toInt64 = zise (Int32.ofNat 1) f s := by
      unfold zir1 zise
      rw [show decide (Int32.ofNat 1 = 1) = true by decide, cond_true]
    rw [e]; exact H
  · have hiff := zise_ok (f := f) (s := s) hr
    have hpw := zpw_lt hq
    rw [zok_p hq] at hiff
    obtain ⟨j, h1, h4, rfl, e2, e3⟩ := zpj_of hq
    rw [e3, e2]
    have hb : zpb j = zpj j ^ 8 := by
      have : j = 1 ∨ j = 2 ∨ j = 3 ∨ j = 4 := by omega
      rcases this with rfl | rfl | rfl | rfl <;> rfl
    have li : ∀ {x y : Int64}, x < y ↔ x.toInt < y.toInt := Int64.lt_iff_toInt_lt
    have le : ∀ {x y : Int64}, x ≤ y ↔ x.toInt ≤ y.toInt := Int64.le_iff_toInt_le
    have t : ∀ x : Int32, x.toInt64.toInt = x.toInt := Int32.toInt_toInt64
    have z : Int64.toInt 0 = 0 := rfl
    have no : ¬ (∃ v, v < zpj j ^ 8 ∧ (f, s) = (Int32.ofNat v, 0)) → Q (.inl (some (.int 0))) (zh (P, T, Y) I A w) := by
      intro hn
      have : zise (Int32.ofNat (zpj j)) f s = false := by
        cases hv : zise (Int32.ofNat (zpj j)) f s with
        | false => rfl
        | true => exact absurd (hiff.mp hv) hn
      rw [this] at H
      exact H
    refine b59 h1 h4 ⟨fun c1 => no ?_, fun c1 => ⟨fun c2 => no ?_, fun c2 => ⟨fun c3 => no ?_, fun c3 => ?_⟩⟩⟩
    · rw [li, t, z] at c1
      rintro ⟨v, hv, e⟩
      cases e
      rw [zN_i (by omega)] at c1
      omega
    · rw [le, t, t, zN_i (by omega), hb] at c2
      rintro ⟨v, hv, e⟩
      cases e
      rw [zN_i (by omega)] at c2
      omega
    · rintro ⟨v, hv, e⟩
      cases e
      exact c3 rfl
    · have : zise (Int32.ofNat (zpj j)) f s = true := by
        refine hiff.mpr ?_
        rw [li, t, z] at c1
        rw [le, t, t, zN_i (by omega), hb] at c2
        obtain ⟨v, hv, rfl⟩ := zNn0 (x := f) (by omega)
        rw [zN_i hv] at c2
        exact ⟨v, by omega, by rw [z64_0.mp c3]⟩
      rw [this] at H
      exact H
theorem kfin {Y : zYt} {I : zIt} {A : zAt} {w : Nat → Int64} {Q : zR → zH → Prop} {S' : zSs} {x : Int32 ⊕ Nat} {f : (Int32 ⊕ Nat) × zSs} (H : ∀ T' h', zCS T' f.2 → zCH Y I A w T' h' → Q (zRo f.1) h') (e : f = (x, S')) : ∀ T' h', zCS T' S' → zCH Y I A w T' h' → Q (zRo x) h' := by
  subst e; exact H
theorem k_create {P : zPt} {T : Nat → zX} {Y : zYt} {I : zIt} {A : zAt} {w : Nat → Int64} {p : Nat × Nat} {Q : zR → zH → Prop} {S : zSs} {a0 a1 a2 a3 : Int32} (hw : zSw S) (hC : zCS T S) (H : ∀ T' h', zCS T' (zc_create S a0 a1 a2 a3).2 → zCH Y I A w T' h' → Q (zRo (zc_create S a0 a1 a2 a3).1) h') : zT zm_94 [.ref 0, .int a0, .int a1, .int a2, .int a3] p (zh (P, T, Y) I A w) Q := by
  have t : ∀ x : Int32, x.toInt64.toInt = x.toInt := Int32.toInt_toInt64
  have li : ∀ {x y : Int32}, x < y ↔ x.toInt < y.toInt := Int32.lt_iff_toInt_lt
  have o1 : Int32.toInt 1 = 1 := rfl
  have o4 : Int32.toInt 4 = 4 := rfl
  have zi : ∀ x : Int32, zin x.toInt64 1 4 = true ↔ 1 ≤ x.toInt ∧ x.toInt ≤ 4 := fun x => by rw [zin_iff, t]; rfl
  have zf : ∀ x : Int32, ¬ (1 ≤ x.toInt ∧ x.toInt ≤ 4) → zin x.toInt64 1 4 = false := fun x h => by rw [← Bool.not_eq_true, zi]; exact h
  have bad2 : zslot a0 = true → (zisr a1 = false ∨ zin a2.toInt64 1 4 = false ∨ zin a3.toInt64 1 4 = false) → Q (.inr 2) (zh (P, T, Y) I A w) := by
    intro c0 c
    have e : zc_create S a0 a1 a2 a3 = (.inr 2, S) := by unfold zc_create; rw [if_neg (by rw [c0]; decide), if_pos c]
    exact kfin H e T _ hC ⟨P, rfl⟩
  refine b94 ⟨fun c0 k hk ek => ⟨fun c1 k1 hk1 ek1 => ⟨fun c2 => bad2 c0 (Or.inr (Or.inl (zf a2 ?_))), fun c2 => ⟨fun c3 => bad2 c0 (Or.inr (Or.inl (zf a2 ?_))), fun c3 => ⟨fun c4 => bad2 c0 (Or.inr (Or.inr (zf a3 ?_))), fun c4 => ⟨fun c5 => bad2 c0 (Or.inr (Or.inr (zf a3 ?_))), fun c5 => ⟨?_, ?_⟩⟩⟩⟩⟩, fun c1 => bad2 c0 (Or.inl c1)⟩, fun c0 => ?_⟩
  · rw [li, o1] at c2; omega
  · rw [li, o4] at c3; omega
  · rw [li, o1] at c4; omega
  · rw [li, o4] at c5; omega
  · have := (hC.2 k).1; omega
  · rw [li, o1] at c2 c4
    rw [li, o4] at c3 c5
    have i2 := (zi a2).mpr (by omega)
    have i3 := (zi a3).mpr (by omega)
    obtain ⟨k2, hk2, ek2⟩ := zin_k (l := 1) (h := 4) (by decide) (by decide) i2
    obtain ⟨k3, hk3, ek3⟩ := zin_k (l := 1) (h := 4) (by decide) (by decide) i3
    have e : zc_create S a0 a1 a2 a3 = (.inl (if (S k).isNone = true then 1 else 0), zup S k (k1, k2, k3, zZ, (0, zZ, zg0))) := by
      unfold zc_create
      rw [if_neg (by rw [c0]; decide), if_neg (by rw [c1, i2, i3]; decide), ek, ek1, ek2, ek3, znn_o (by omega), znn_o (zrg_lt hk1), znn_o (by omega), znn_o (by omega)]
    have hm : zmw (k1, k2, k3, zZ, (0, zZ, zg0)) := ⟨⟨hk1, hk2.1, hk2.2, hk3.1, hk3.2⟩, zwf_0 (zZ_w hk1)⟩
    rw [zCS_0 hC hw hk, ek2, ek3]
    refine ⟨fun c => ?_, fun c => ?_⟩
    · rw [c] at e
      exact s28 (by omega) (fun T' f1 f2 => b94_69 (kfin H e T' _ (zCS_up hC f1 (f2 zg0) hm) ⟨P, rfl⟩))
    · rw [c] at e
      exact s28 (by omega) (fun T' f1 f2 => b94_69 (kfin H e T' _ (zCS_up hC f1 (f2 zg0) hm) ⟨P, rfl⟩))
  · have e : zc_create S a0 a1 a2 a3 = (.inr 0, S) := by unfold zc_create; rw [if_pos c0]
    exact kfin H e T _ hC ⟨P, rfl⟩
theorem k_set {P : zPt} {T : Nat → zX} {Y : zYt} {I : zIt} {A : zAt} {w : Nat → Int64} {p : Nat × Nat} {Q : zR → zH → Prop} {S : zSs} {a0 a1 a2 a3 a4 : Int32} (hw : zSw S) (hC : zCS T S) (H : ∀ T' h', zCS T' (zc_set S a0 a1 a2 a3 a4).2 → zCH Y I A w T' h' → Q (zRo (zc_set S a0 a1 a2 a3 a4).1) h') : zT zm_98 [.ref 0, .int a0, .int a1, .int a2, .int a3, .int a4] p (zh (P, T, Y) I A w) Q := by
  refine b98 ⟨hC.2, fun c k hk ek => ?_, fun c0 => kfin H (zwith_0 c0) T _ hC ⟨P, rfl⟩, fun c => ?_⟩
  · obtain ⟨X, e⟩ := zfil_k hC hk ek c.2
    have hX := hw k X hk e
    have hx := zCS_x hC hk e
    have h4 := hX.1.2.2.1
    have h5 := hX.1.2.2.2.2
    have bad2 : ¬ (zcel X.2.1 X.2.2.1 a1 a2 = true ∧ zise (Int32.ofNat X.1) a3 a4 = true) → Q (.inr 2) (zh (P, T, Y) I A w) := by
      intro hn
      exact kfin (x := .inr 2) (S' := S) H (by rw [zc_set, zwith_2 c.1 hk ek e, if_neg hn]) T _ hC ⟨P, rfl⟩
    rw [zcell_e hx.1 h4 h5, hx.1.1]
    refine ⟨fun c1 => bad2 (fun h => by rw [c1] at h; cases h.1), fun c1 k1 hk1 ek1 k2 hk2 ek2 => c_inr hX.1.1 (b98_31 (by omega) ⟨fun c2 => bad2 (fun h => by rw [c2] at h; cases h.2), fun c2 => ⟨hC.2 k, ?_⟩⟩)⟩
    obtain ⟨x, y, hx1, hy1, ex, ey⟩ := zcel_n c1
    have : k1 = x := zN_inj hk1 (by omega) (ek1.symm.trans ex)
    subst this
    have : k2 = y := zN_inj hk2 (by omega) (ek2.symm.trans ey)
    subst this
    have hok := (zise_ok hX.1.1).mp c2
    rw [zxat_e (hC.2 k) hx.1 hx.2.2.1 hX.2.2.1 hk1 hk2, zfi_n]
    have hE' : zCe (va_up (T k).2.2.2.2.1 (k1 * 4 + k2) (zen (a3, a4))) (zupE X.2.2.2.2.2.1 k1 k2 (a3, a4)) := by
      intro i j hi hj
      unfold zupE
      by_cases hij : i = k1 ∧ j = k2
      · obtain ⟨rfl, rfl⟩ := hij
        rw [va_up_self, if_pos ⟨rfl, rfl⟩]
      · rw [va_up_ne _ _ (by omega), if_neg hij]
        exact hx.2.2.1 i j hi hj
    refine s32 (by omega) (hC.2 k) hx.1 hx1 hy1 (b98_70 (by omega) (s29 (r := X.1) (h := X.2.1) (d := X.2.2.1) (E := zupE X.2.2.2.2.2.1 k1 k2 (a3, a4)) (by omega) (by rw [va_up_self]; exact hx.1) (by rw [va_up_self]; exact hE') (fun T' f1 f2 => b98_75 ?_)))
    exact kfin (x := .inl (X.2.2.2.2.2.1 k1 k2).1) (S' := zup S k (X.1, X.2.1, X.2.2.1, zupE X.2.2.2.2.2.1 k1 k2 (a3, a4), (0, zupE X.2.2.2.2.2.1 k1 k2 (a3, a4), zg0))) H (by rw [zc_set, zwith_2 c.1 hk ek e, if_pos ⟨c1, c2⟩, ek, ek1, ek2, znn_o hk1, znn_o hk2, znn_o (k := k) (by omega)]) T' _ (zCS_up hC (zTo_t zTo_u f1) (f2 zg0) ⟨hX.1, zwf_0 (zupE_w hX.2.2.1 hx1 hy1 hok)⟩) ⟨P, rfl⟩
  · obtain ⟨k, hk, ek, e⟩ := zfil_n hC hw c.1 c.2
    exact kfin H (zwith_1 c.1 hk ek e) T _ hC ⟨P, rfl⟩
theorem k_copy {P : zPt} {T : Nat → zX} {Y : zYt} {I : zIt} {A : zAt} {w : Nat → Int64} {p : Nat × Nat} {Q : zR → zH → Prop} {S : zSs} {a0 a1 : Int32} (hw : zSw S) (hC : zCS T S) (H : ∀ T' h', zCS T' (zc_copy S a0 a1).2 → zCH Y I A w T' h' → Q (zRo (zc_copy S a0 a1).1) h') : zT zm_101 [.ref 0, .int a0, .int a1] p (zh (P, T, Y) I A w) Q := by
  have bad0 : (zslot a0 = false ∨ zslot a1 = false) → Q (.inr 0) (zh (P, T, Y) I A w) := fun c => kfin (x := .inr 0) (S' := S) H (by rw [zc_copy, if_pos c]) T _ hC ⟨P, rfl⟩
  refine b101 ⟨fun c1 k1 hk1 ek1 => ⟨hC.2, fun c k hk ek => ?_, fun c0 => bad0 (Or.inl c0), fun c => ?_⟩, fun c1 => bad0 (Or.inr c1)⟩
  · obtain ⟨X, e⟩ := zfil_k hC hk ek c.2
    have hX := hw k X hk e
    have hx := zCS_x hC hk e
    refine s33 (by omega) (by omega) hx hX.2.1 (fun T' f1 f2 => b101_19 (by omega) ?_)
    have ec : (T' k).2.2.2.1 = X.2.2.2.2.1 := by
      by_cases hkk : k = k1
      · rw [hkk]; exact f2.2.1
      · rw [f1 k hkk]; exact hx.2.1
    rw [ec]
    exact kfin (x := .inl (Int32.ofNat X.2.2.2.2.1)) (S' := zup S k1 X) H (by rw [zc_copy, if_neg (by rw [c.1, c1]; decide), ek, ek1, znn_o (by omega), znn_o (by omega), e]) T' _ (zCS_up hC f1 f2 hX) ⟨P, rfl⟩
  · obtain ⟨k, hk, ek, e⟩ := zfil_n hC hw c.1 c.2
    exact kfin (x := .inr 1) (S' := S) H (by rw [zc_copy, if_neg (by rw [c.1, c1]; decide), ek, znn_o (by omega), e]) T _ hC ⟨P, rfl⟩
theorem k_ring {P : zPt} {T : Nat → zX} {Y : zYt} {I : zIt} {A : zAt} {w : Nat → Int64} {p : Nat × Nat} {Q : zR → zH → Prop} {S : zSs} {a0 : Int32} (hw : zSw S) (hC : zCS T S) (H : ∀ T' h', zCS T' (zc_of S a0 (fun X => X.1) (-1)).2 → zCH Y I A w T' h' → Q (zRo (zc_of S a0 (fun X => X.1) (-1)).1) h') : zT zm_104 [.ref 0, .int a0] p (zh (P, T, Y) I A w) Q := by
  refine b104 ⟨fun c0 k hk ek => ⟨by have := (hC.2 k).1; omega, ?_⟩, fun c0 => kfin (x := .inr 0) (S' := S) H (by rw [zc_of, if_pos c0]) T _ hC ⟨P, rfl⟩⟩
  rw [zCS_0 hC hw hk]
  refine ⟨fun c => ?_, fun c => ?_⟩
  · cases e : S k with
    | none => rw [e] at c; cases c
    | some X =>
      have hX := hw k X hk e
      have hx := zCS_x hC hk e
      have er : zrno (T k).1 = X.1 := by
        rw [hx.1.1]
        rcases hX.1.1 with h | h | h | h | h | h <;> rw [h] <;> rfl
      rw [er]
      exact kfin (x := .inl (Int32.ofNat X.1)) (S' := S) H (by rw [zc_of, if_neg (by rw [c0]; decide), ek, znn_o (by omega), e]) T _ hC ⟨P, rfl⟩
  · exact kfin (x := .inl (-1)) (S' := S) H (by rw [zc_of, if_neg (by rw [c0]; decide), ek, znn_o (by omega), Option.isNone_iff_eq_none.mp c]) T _ hC ⟨P, rfl⟩
theorem k_of {P : zPt} {T : Nat → zX} {Y : zYt} {I : zIt} {A : zAt} {w : Nat → Int64} {Q : zR → zH → Prop} {S : zSs} {a0 : Int32} {f : zMt → Nat} {k v : Nat} (hC : zCS T S) (c0 : zslot a0 = true) (hk : k < 3) (ek : a0 = Int32.ofNat k) (h0 : S k = none → v = 0) (h1 : ∀ X, S k = some X → v = f X) (H : ∀ T' h', zCS T' (zc_of S a0 f 0).2 → zCH Y I A w T' h' → Q (zRo (zc_of S a0 f 0).1) h') : Q (.inl (some (.int (Int32.ofNat v)))) (zh (P, T, Y) I A w) := by
  cases e : S k with
  | none =>
    rw [h0 e]
    exact kfin (x := .inl 0) (S' := S) H (by rw [zc_of, if_neg (by rw [c0]; decide), ek, znn_o (by omega), e]) T _ hC ⟨P, rfl⟩
  | some X =>
    rw [h1 X e]
    exact kfin (x := .inl (Int32.ofNat (f X))) (S' := S) H (by rw [zc_of, if_neg (by rw [c0]; decide), ek, znn_o (by omega), e]) T _ hC ⟨P, rfl⟩
theorem zCS_n {T : Nat → zX} {S : zSs} {k : Nat} (h : zCS T S) (hk : k < 3) (e : S k = none) : (T k).2.1 = 0 ∧ (T k).2.2.1 = 0 ∧ (T k).2.2.2.1 = 0 := by
  have := h.1 k hk
  rw [e] at this
  exact this
theorem k_rows {P : zPt} {T : Nat → zX} {Y : zYt} {I : zIt} {A : zAt} {w : Nat → Int64} {p : Nat × Nat} {Q : zR → zH → Prop} {S : zSs} {a0 : Int32} (hC : zCS T S) (H : ∀ T' h', zCS T' (zc_of S a0 (fun X => X.2.1) 0).2 → zCH Y I A w T' h' → Q (zRo (zc_of S a0 (fun X => X.2.1) 0).1) h') : zT zm_105 [.ref 0, .int a0] p (zh (P, T, Y) I A w) Q :=
  b105 ⟨fun c0 k hk ek => k_of (f := fun X => X.2.1) hC c0 hk ek (fun e => (zCS_n hC hk e).1) (fun X e => (zCS_x hC hk e).1.2.1) H, fun c0 => kfin (x := .inr 0) (S' := S) H (by rw [zc_of, if_pos c0]) T _ hC ⟨P, rfl⟩⟩
theorem k_columns {P : zPt} {T : Nat → zX} {Y : zYt} {I : zIt} {A : zAt} {w : Nat → Int64} {p : Nat × Nat} {Q : zR → zH → Prop} {S : zSs} {a0 : Int32} (hC : zCS T S) (H : ∀ T' h', zCS T' (zc_of S a0 (fun X => X.2.2.1) 0).2 → zCH Y I A w T' h' → Q (zRo (zc_of S a0 (fun X => X.2.2.1) 0).1) h') : zT zm_106 [.ref 0, .int a0] p (zh (P, T, Y) I A w) Q :=
  b106 ⟨fun c0 k hk ek => k_of (f := fun X => X.2.2.1) hC c0 hk ek (fun e => (zCS_n hC hk e).2.1) (fun X e => (zCS_x hC hk e).1.2.2) H, fun c0 => kfin (x := .inr 0) (S' := S) H (by rw [zc_of, if_pos c0]) T _ hC ⟨P, rfl⟩⟩
theorem k_steps {P : zPt} {T : Nat → zX} {Y : zYt} {I : zIt} {A : zAt} {w : Nat → Int64} {p : Nat × Nat} {Q : zR → zH → Prop} {S : zSs} {a0 : Int32} (hC : zCS T S) (H : ∀ T' h', zCS T' (zc_of S a0 (fun X => X.2.2.2.2.1) 0).2 → zCH Y I A w T' h' → Q (zRo (zc_of S a0 (fun X => X.2.2.2.2.1) 0).1) h') : zT zm_118 [.ref 0, .int a0] p (zh (P, T, Y) I A w) Q :=
  b118 ⟨fun c0 k hk ek => k_of (f := fun X => X.2.2.2.2.1) hC c0 hk ek (fun e => (zCS_n hC hk e).2.2) (fun X e => (zCS_x hC hk e).2.1) H, fun c0 => kfin (x := .inr 0) (S' := S) H (by rw [zc_of, if_pos c0]) T _ hC ⟨P, rfl⟩⟩
