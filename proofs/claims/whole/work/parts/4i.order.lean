/-! ORDER -/
def zord (r : Nat) (E : zMe) : Nat → Nat → Int64 → Option Int64
  | 0, _, x => some x
  | n + 1, k, x => if x ≤ (1000000000000000000 : Int64) / zrsd r (E k k) then zord r E n (k + 1) (x * zrsd r (E k k)) else none
def zc_order (S : zSs) (a0 : Int32) : (Int64 ⊕ Nat) × zSs := zwith S a0 (fun X => match zfS (zfr0 X) with
  | none => (.inr 3, S)
  | some q => if X.2.1 ≤ q.1 then (match zord X.1 q.2.2.1 X.2.1 0 1 with
    | none => (.inr 3, S)
    | some v => (.inl v, S)) else (.inl 0, S))
def zrvL (x : Int64 ⊕ Nat) : Int64 := match x with
  | .inl v => v
  | .inr _ => 0
def zRoL (x : Int64 ⊕ Nat) : zR := match x with
  | .inl v => .inl (some (.long v))
  | .inr e => .inr e
theorem zfinL {K : zKt} {J : zJt} {B : zBt} {w : Nat → Int64} {Q : zR → zH → Prop} {S' : zSs} {l : List Nat} {x : Int64 ⊕ Nat} {f : (Int64 ⊕ Nat) × zSs} (H : ∀ m' h', zRS m' f.2 → zRH K J B w m' (zcd l f.1) h' → Q (.inl (some (.long (zrvL f.1)))) h') (e : f = (x, S')) : ∀ m' h', zRS m' S' → zRH K J B w m' (zcd l x) h' → Q (.inl (some (.long (zrvL x)))) h' := by
  subst e; exact H
theorem kfinL {Y : zYt} {I : zIt} {A : zAt} {w : Nat → Int64} {Q : zR → zH → Prop} {S' : zSs} {x : Int64 ⊕ Nat} {f : (Int64 ⊕ Nat) × zSs} (H : ∀ T' h', zCS T' f.2 → zCH Y I A w T' h' → Q (zRoL f.1) h') (e : f = (x, S')) : ∀ T' h', zCS T' S' → zCH Y I A w T' h' → Q (zRoL x) h' := by
  subst e; exact H
theorem zL_on {n : Nat} (h : n < 9223372036854775808) : (Int64.ofNat n).toInt = (n : Int) := Int64.toInt_ofNat_of_lt h
theorem zpw7 {q d : Nat} (hq : zprm q) (hd : d ≤ 7) : 1 ≤ q ^ d ∧ q ^ d ≤ 5764801 := by
  have hq7 := zprm_lt hq
  exact ⟨Nat.pow_pos (by omega), Nat.le_trans (Nat.pow_le_pow_right (by omega) (show d ≤ 8 by omega)) (zpw_lt hq)⟩
theorem zrsd_1le {r : Nat} (hr : zrg r) {a : zE2} (ha : zok r a) (h0 : a ≠ (0, 0)) : 1 ≤ (zrsd r a).toInt := by
  have key : 1 ≤ (zsz r a).toInt := by
    obtain ⟨h1, h2⟩ := zsz_i hr ha
    have : (zsz r a).toInt ≠ 0 := fun h => h0 (h2.mp h)
    omega
  rcases zrg_c hr with rfl | rfl | hq
  · rw [zrsd_0]; exact key
  · rw [zrsd_1]; exact key
  · obtain ⟨x, hx, rfl⟩ := (zok_p hq).mp ha
    rw [zrsd_p hq hx]
    have h8 := zdn_le (zcf r x) 8
    have := zpw7 hq (d := zdn (zcf r x) 8 - 1) (by omega)
    unfold zrsP
    rw [zL_on (by omega)]
    omega
theorem zrsd_n0 {r : Nat} (hr : zrg r) {a : zE2} (ha : zok r a) (h0 : a ≠ (0, 0)) : zrsd r a ≠ 0 := by
  intro h
  have := zrsd_1le hr ha h0
  rw [h, show Int64.toInt 0 = 0 from rfl] at this
  omega
theorem zfS_w {X : zMt} (hX : zmw X) {t : Nat} {τ : zFo} (e : zfS (zfr0 X) = some (t, τ)) : zwf X.1 X.2.1 X.2.2.1 X.2.2.2.2.2.1 τ ∧ t ≤ X.2.1 ∧ t ≤ X.2.2.1 ∧ (∀ k, k < t → τ.2.1 k k ≠ (0, 0)) ∧ zfnd X.1 X.2.1 X.2.2.1 τ.2.1 t = none :=
  zsmt_w hX.1 205 true 0 t (0, X.2.2.2.2.2.1, zg0) τ (by show 205 ≤ 205 + 0 + 0; omega) (zwf_0 hX.2.2.1) ⟨by omega, by omega, fun h => (by cases h)⟩ (fun k hk => absurd hk (Nat.not_lt_zero k)) e
theorem zL_s (n : Nat) : Int64.ofNat n + 1 = Int64.ofNat (n + 1) := by
  rw [Int64.ofNat_add]; rfl
theorem l214 {K : zKt} {code rf rs pr pn : Int32} {bad : Bool} {J : zJt} {m pa pb pc vf vs : Nat → Int32} {B : zBt} {w : Nat → Int64} {p : Nat × Nat} {Q : zR → zH → Prop} {q D t x : Nat} {s v : Int64} (h2 : 2 ≤ q) (h7 : q < 2147483648) (hD7 : D ≤ 7) (hsi : s.toInt = ((D + 1 : Nat) : Int))
    (HT : Int64.ofNat (q ^ D) ≠ 0 ∧ ((v ≤ (1000000000000000000 : Int64) / Int64.ofNat (q ^ D) → zW zm_214 67 [some (.ref 75), none, none, some (.int (Int32.ofNat t)), some (.int (Int32.ofNat q)), some (.long (v * Int64.ofNat (q ^ D))), none, some (.int (Int32.ofNat (x + 1))), none, none, none, none, none, none, none] [] p (zh K (code, rf, rs, bad, pr, pn, J) (m, pa, pb, pc, vf, vs, B) w) Q) ∧ (¬ v ≤ (1000000000000000000 : Int64) / Int64.ofNat (q ^ D) → Q (.inl (some (.long (0 : Int64)))) (zh K ((3 : Int32), rf, rs, bad, pr, pn, J) (m, pa, pb, pc, vf, vs, B) w)))) :
    ∀ (n j : Nat), j + n = D → zW zm_214 126 [some (.ref 75), none, none, some (.int (Int32.ofNat t)), some (.int (Int32.ofNat q)), some (.long v), none, some (.int (Int32.ofNat x)), none, some (.long s), none, some (.long (Int64.ofNat (q ^ j))), none, some (.long (Int64.ofNat (j + 1))), none] [] p (zh K (code, rf, rs, bad, pr, pn, J) (m, pa, pb, pc, vf, vs, B) w) Q := by
  intro n
  induction n with
  | zero =>
    intro j hj
    have : j = D := by omega
    subst this
    have hle : s ≤ Int64.ofNat (j + 1) := by
      rw [Int64.le_iff_toInt_le, hsi, zL_on (by omega)]; omega
    exact b214_126 ⟨fun _ => HT, fun h => absurd hle h⟩
  | succ n ihn =>
    intro j hj
    have hle : ¬ s ≤ Int64.ofNat (j + 1) := by
      rw [Int64.le_iff_toInt_le, hsi, zL_on (by omega)]; omega
    refine b214_126 ⟨fun h => absurd h hle, fun _ => ⟨fun h => ?_, fun _ => ?_⟩⟩
    · rw [show (1 : Int32) = Int32.ofNat 1 from rfl, zN_leI (by omega) (by omega)] at h
      omega
    · rw [zNL h7, ← Int64.ofNat_mul, ← Nat.pow_succ, zL_s]
      exact ihn (j + 1) (by omega)
theorem r_order {K : zKt} {code rf rs pr pn : Int32} {bad : Bool} {J : zJt} {m pa pb pc vf vs : Nat → Int32} {B : zBt} {w : Nat → Int64} {p : Nat × Nat} {Q : zR → zH → Prop} {S : zSs} {a0 : Int32} (hw : zSw S) (hR : zRS m S) (H : ∀ m' h', zRS m' (zc_order S a0).2 → zRH K J B w m' (zcd [0, 1, 3] (zc_order S a0).1) h' → Q (.inl (some (.long (zrvL (zc_order S a0).1)))) h') : zT zm_214 [.ref 75, .int a0] p (zh K (code, rf, rs, bad, pr, pn, J) (m, pa, pb, pc, vf, vs, B) w) Q := by
  refine b214 (s169 hw hR (fun c0 => b214_5 ⟨fun h => absurd h (by decide), fun _ => zfinL H (zwith_0 c0) m _ hR ⟨_, _, _, _, _, _, _, _, _, _, rfl⟩⟩) (fun k hk ek c0 e => b214_5 ⟨fun h => absurd h (by decide), fun _ => zfinL H (zwith_1 c0 hk ek e) m _ hR ⟨_, _, _, _, _, _, _, _, _, _, rfl⟩⟩) (fun k X hk ek c0 e => ?_))
  have hX := hw k X hk e
  have hr := hX.1.1
  have hr7 := zrg_lt hr
  have h4 := hX.1.2.2.1
  refine b214_5 ⟨fun _ => ?_, fun h => absurd (by decide) h⟩
  rw [ek]
  refine s208 hw hR hk e (fun t τ eτ rf' rs' pa' pb' pc' pr' pn' m' f1 f2 f3 => b214_22 ⟨fun _ => ?_, fun h => (by cases h)⟩) (fun eτ rv rf' rs' pa' pb' pc' pr' pn' m' f1 => b214_22 ⟨fun h => (by cases h), fun _ => ?_⟩)
  · have hR' := zRS_fr hR hw f1 (by omega)
    obtain ⟨w1, w2, w3, w4, w5⟩ := zfS_w hX eτ
    rw [show m' 3205 = Int32.ofNat X.2.1 from f2.1.2.1, show m' 3204 = Int32.ofNat X.1 from f2.1.1, zN_leI (by omega) (by omega)]
    refine ⟨fun hth => ?_, fun hth => zfinL (x := .inl 0) (S' := S) H (by rw [zc_order, zwith_2 c0 hk ek e, eτ]; show (if X.2.1 ≤ t then _ else _) = _; rw [if_neg hth]) m' _ hR' ⟨_, _, _, _, _, _, _, _, _, _, rfl⟩⟩
    have ht : t = X.2.1 := by omega
    have ex : zc_order S a0 = (match zord X.1 τ.2.1 X.2.1 0 1 with
        | none => (.inr 3, S)
        | some v => (.inl v, S)) := by rw [zc_order, zwith_2 c0 hk ek e, eτ]; show (if X.2.1 ≤ t then _ else _) = _; rw [if_pos hth]
    have fail : ∀ rf rs pr pn pa pb pc, zord X.1 τ.2.1 X.2.1 0 1 = none → Q (.inl (some (.long (0 : Int64)))) (zh K ((3 : Int32), rf, rs, false, pr, pn, J) (m', pa, pb, pc, vf, vs, B) w) := fun rf rs pr pn pa pb pc en => by
      rw [en] at ex
      exact zfinL H ex m' _ hR' ⟨_, _, _, _, _, _, _, _, _, _, rfl⟩
    have lp : ∀ (n x : Nat) (v : Int64) (rf rs pr pn : Int32) (pa pb pc : Nat → Int32), x + n = t → zord X.1 τ.2.1 n x v = zord X.1 τ.2.1 X.2.1 0 1 → zW zm_214 67 [some (.ref 75), none, none, some (.int (Int32.ofNat t)), some (.int (Int32.ofNat X.1)), some (.long v), none, some (.int (Int32.ofNat x)), none, none, none, none, none, none, none] [] p (zh K ((0 : Int32), rf, rs, false, pr, pn, J) (m', pa, pb, pc, vf, vs, B) w) Q := by
      intro n
      induction n with
      | zero =>
        intro x v rf rs pr pn pa pb pc hx eo
        rw [zord] at eo
        rw [← eo] at ex
        refine b214_67 ⟨fun _ => zfinL H ex m' _ hR' ⟨_, _, _, _, _, _, _, _, _, _, rfl⟩, fun h => absurd ?_ h⟩
        exact (zN_leI (by omega) (by omega)).mpr (by omega)
      | succ n ih =>
        intro x v rf rs pr pn pa pb pc hx eo
        refine b214_67 ⟨fun h => absurd ((zN_leI (by omega) (by omega)).mp h) (by omega), fun _ => ⟨by omega, by omega, ?_⟩⟩
        have em := f2.2.2.1 x x (by omega) (by omega)
        rw [show m' (3208 + 8 * x + 2 * x) = _ from em.1, show m' (3208 + 8 * x + 2 * x + 1) = _ from em.2]
        have hok := w1.2.1.1 x x
        have hnz := w4 x (by omega)
        have hz := zrsd_n0 hr hok hnz
        rw [zord] at eo
        have tail : ∀ rf rs pr pn pa pb pc, (zrsd X.1 (τ.2.1 x x) ≠ 0 ∧ ((v ≤ (1000000000000000000 : Int64) / zrsd X.1 (τ.2.1 x x) → zW zm_214 67 [some (.ref 75), none, none, some (.int (Int32.ofNat t)), some (.int (Int32.ofNat X.1)), some (.long (v * zrsd X.1 (τ.2.1 x x))), none, some (.int (Int32.ofNat (x + 1))), none, none, none, none, none, none, none] [] p (zh K ((0 : Int32), rf, rs, false, pr, pn, J) (m', pa, pb, pc, vf, vs, B) w) Q) ∧ (¬ v ≤ (1000000000000000000 : Int64) / zrsd X.1 (τ.2.1 x x) → Q (.inl (some (.long (0 : Int64)))) (zh K ((3 : Int32), rf, rs, false, pr, pn, J) (m', pa, pb, pc, vf, vs, B) w)))) := by
          intro rf rs pr pn pa pb pc
          refine ⟨hz, fun hle => ?_, fun hle => ?_⟩
          · rw [if_pos hle] at eo
            exact ih (x + 1) _ _ _ _ _ _ _ _ (by omega) eo
          · rw [if_neg hle] at eo
            exact fail rf rs pr pn pa pb pc eo.symm
        refine s189 hr hok (fun pa' => b214_107 ?_)
        rw [show (2 : Int32) = Int32.ofNat 2 from rfl, zN_leI (by omega) (by omega)]
        refine ⟨fun h2 => ?_, fun h2 => ?_⟩
        · have hq : zprm X.1 := by unfold zrg at hr; unfold zprm; omega
          obtain ⟨u, hu, eu⟩ := (zok_p hq).mp hok
          rw [eu] at tail hnz ⊢
          rw [show zsz X.1 (Int32.ofNat u, 0) = zszP X.1 u from zsz_p hq hu]
          obtain ⟨D, hDe⟩ := Nat.exists_eq_succ_of_ne_zero (Nat.pos_iff_ne_zero.mp (zcf_nz (p := X.1) (Nat.lt_of_succ_le h2) hu (fun h => hnz (by rw [h]; rfl))))
          have hD7 : D ≤ 7 := Nat.le_of_succ_le_succ (hDe ▸ zdn_le (zcf X.1 u) 8)
          have hsi : (zszP X.1 u).toInt = ((D + 1 : Nat) : Int) := by rw [zszP_i, hDe]
          have hrs : zrsd X.1 (Int32.ofNat u, 0) = Int64.ofNat (X.1 ^ D) := by
            rw [zrsd_p hq hu, zrsP, hDe]; rfl
          rw [hrs] at tail
          exact l214 h2 hr7 hD7 hsi (tail _ _ _ _ _ _ _) D 0 (Nat.zero_add D)
        · have e1 : zsz X.1 (τ.2.1 x x) = zrsd X.1 (τ.2.1 x x) := by
            unfold zrsd
            rw [if_pos (by omega)]
          rw [show zsz X.1 ((τ.2.1 x x).1, (τ.2.1 x x).2) = zrsd X.1 (τ.2.1 x x) from e1]
          refine b214_126 ⟨fun _ => tail _ _ _ _ _ _ _, fun _ => ⟨fun _ => tail _ _ _ _ _ _ _, fun h => absurd ?_ h⟩⟩
          rw [show (1 : Int32) = Int32.ofNat 1 from rfl, zN_leI (by omega) (by omega)]
          omega
    exact lp t 0 1 _ _ _ _ _ _ _ (by omega) (by rw [ht])
  · exact zfinL (x := .inr 3) (S' := S) H (by rw [zc_order, zwith_2 c0 hk ek e, eτ]) m' _ (zRS_fr hR hw f1 (by omega)) ⟨_, _, _, _, _, _, _, _, _, _, rfl⟩
theorem k_order {P : zPt} {T : Nat → zX} {Y : zYt} {I : zIt} {A : zAt} {w : Nat → Int64} {p : Nat × Nat} {Q : zR → zH → Prop} {S : zSs} {a0 : Int32} (hw : zSw S) (hC : zCS T S) (H : ∀ T' h', zCS T' (zc_order S a0).2 → zCH Y I A w T' h' → Q (zRoL (zc_order S a0).1) h') : zT zm_125 [.ref 0, .int a0] p (zh (P, T, Y) I A w) Q := by
  refine b125 ⟨hC.2, fun c k hk ek => ?_, fun c0 => kfinL H (zwith_0 c0) T _ hC ⟨P, rfl⟩, fun c => ?_⟩
  · obtain ⟨X, e⟩ := zfil_k hC hk ek c.2
    have hX := hw k X hk e
    have hx := zCS_x hC hk e
    have hr := hX.1.1
    have h4 := hX.1.2.2.1
    have h5 := hX.1.2.2.2.2
    refine s36 (i := 3) (by omega) (by omega) (by omega) hx.1 hx.2.2.1 (fun T1 f1 f2 => b125_14 ?_)
    have hwf := zwf_0 (g := zg0) hX.2.2.1
    have hC1 := zCS_w hC f1 (by omega) (zCX_b hX.1 hwf (f2 zg0))
    refine s82 (i := 3) (by omega) hX.1 (f2 zg0) hwf (fun t τ eτ P2 T2 g1 g2 g3 => b125_21 ?_) (fun eτ P2 T2 g1 g2 => ?_)
    · have eτ' : zfS (zfr0 X) = some (t, τ) := eτ
      have hXb := zCX_b hX.1 g3 g2
      have hC2 := zCS_w hC1 g1 (by omega) hXb
      obtain ⟨w1, w2, w3, w4, w5⟩ := zfS_w hX eτ'
      rw [g2.1.2.1, zN_leI (by omega) (by omega)]
      refine ⟨fun hth => ?_, fun hth => kfinL (x := .inl 0) (S' := S) H (by rw [zc_order, zwith_2 c.1 hk ek e, eτ']; show (if X.2.1 ≤ t then _ else _) = _; rw [if_neg hth]) T2 _ hC2 ⟨P2, rfl⟩⟩
      have ex : zc_order S a0 = (match zord X.1 τ.2.1 X.2.1 0 1 with
          | none => (.inr 3, S)
          | some v => (.inl v, S)) := by rw [zc_order, zwith_2 c.1 hk ek e, eτ']; show (if X.2.1 ≤ t then _ else _) = _; rw [if_pos hth]
      have lp : ∀ (n x : Nat) (v : Int64) P, x + n = X.2.1 → zord X.1 τ.2.1 n x v = zord X.1 τ.2.1 X.2.1 0 1 → zW zm_125 38 [some (.ref 0), none, none, some (.long v), none, some (.int (Int32.ofNat x)), none, none] [] p (zh (P, T2, Y) I A w) Q := by
        intro n
        induction n with
        | zero =>
          intro x v P hx eo
          rw [zord] at eo
          rw [← eo] at ex
          refine b125_38 ⟨by omega, by rw [g2.1.2.1]; omega, fun _ => kfinL H ex T2 _ hC2 ⟨P, rfl⟩, fun h => ?_⟩
          rw [g2.1.2.1] at h
          omega
        | succ n ih =>
          intro x v P hx eo
          refine b125_38 ⟨by omega, by rw [g2.1.2.1]; omega, fun h => ?_, fun _ => ⟨hXb, ?_⟩⟩
          · rw [g2.1.2.1] at h; omega
          rw [zxat_e hXb g2.1 g2.2.2.1 g3.2.1 (by omega) (by omega), g2.1.1]
          have hok := w1.2.1.1 x x
          have hnz := w4 x (by omega)
          have h1 := zrsd_1le hr hok hnz
          rw [zord] at eo
          refine c_rsd hr hok hnz (fun P' => b125_71 ⟨fun h => ?_, fun _ => ⟨zrsd_n0 hr hok hnz, fun hle => ?_, fun hle => ?_⟩⟩)
          · rw [Int64.lt_iff_toInt_lt, show Int64.toInt 1 = 1 from rfl] at h
            omega
          · rw [if_pos hle] at eo
            exact ih (x + 1) _ P' (by omega) eo
          · rw [if_neg hle] at eo
            rw [← eo] at ex
            exact kfinL H ex T2 _ hC2 ⟨P', rfl⟩
      exact lp X.2.1 0 1 P2 (by omega) rfl
    · exact kfinL (x := .inr 3) (S' := S) H (by rw [zc_order, zwith_2 c.1 hk ek e, show zfS (zfr0 X) = none from eτ]) T2 _ (zCS_w hC1 g1 (by omega) g2) ⟨P2, rfl⟩
  · obtain ⟨k, hk, ek, e⟩ := zfil_n hC hw c.1 c.2
    exact kfinL H (zwith_1 c.1 hk ek e) T _ hC ⟨P, rfl⟩
