/-! QUOTIENT and GCD -/
def zc_quot (S : zSs) (a0 a1 a2 a3 : Int32) : (Int32 ⊕ Nat) × zSs := if zisr a0 = false ∨ zise a0 a1 0 = false ∨ zise a0 a2 0 = false ∨ zpar a3 = false then (.inr 2, S) else if a2 = 0 then (.inr 3, S) else (.inl (zpv (zquo (znn a0) (a1, 0) (a2, 0)) a3), S)
def zgc (r : Nat) : Nat → zE2 → zE2 → zE2
  | 0, a, _ => a
  | n + 1, a, b => if b = (0, 0) then a else zgc r n b ((zrem r a b).getD (0, 0))
def zgv (r : Nat) (g : zE2) : zE2 := (zplus r (0, 0) g (znrm r g)).getD (0, 0)
def zc_gcd (S : zSs) (a0 a1 a2 a3 a4 a5 : Int32) : (Int32 ⊕ Nat) × zSs := if zisr a0 = false ∨ zise a0 a1 a2 = false ∨ zise a0 a3 a4 = false ∨ zpar a5 = false then (.inr 2, S) else (.inl (zpv (zgv (znn a0) (zgc (znn a0) 1000 (a1, a2) (a3, a4))) a5), S)
theorem zpv_n {e : zE2} {x : Int32} {k : Nat} (hk : k ≤ 1) (ex : x = Int32.ofNat k) : zpv e x = if k = 0 then e.1 else e.2 := by
  have : k = 0 ∨ k = 1 := by omega
  unfold zpv
  rcases this with rfl | rfl
  · rw [if_pos (by rw [ex]; rfl), if_pos rfl]
  · rw [if_neg (by rw [ex]; decide), if_neg (by decide)]
theorem zc64 : (0 : Int32).toInt64 = (0 : Int64) := by decide
theorem zgv_0 {r : Nat} (hr : zrg r) : zgv r (0, 0) = (0, 0) := by
  unfold zgv
  rw [zplus_cm hr, zplus_z hr (zok_0 hr) (zun_ok hr (zun_nrm hr (zok_0 hr)))]
  rfl
theorem zgv_s {r : Nat} (hr : zrg r) {g : zE2} (hg : zok r g) : zplus r (0, 0) g (znrm r g) = some (zgv r g) ∧ zplus r (0, 0) (znrm r g) g = some (zgv r g) := by
  obtain ⟨v, e, _⟩ := zplus_u hr (zun_nrm hr hg) hg
  have e' : zplus r (0, 0) g (znrm r g) = some v := by rw [zplus_cm hr]; exact e
  have : zgv r g = v := by unfold zgv; rw [e']; rfl
  rw [this]
  exact ⟨e', e⟩
theorem r_quot {K : zKt} {code rf rs pr pn : Int32} {bad : Bool} {J : zJt} {m pa pb pc vf vs : Nat → Int32} {B : zBt} {w : Nat → Int64} {p : Nat × Nat} {Q : zR → zH → Prop} {S : zSs} {a0 a1 a2 a3 : Int32} (hR : zRS m S) (H : ∀ m' h', zRS m' (zc_quot S a0 a1 a2 a3).2 → zRH K J B w m' (zcd [2, 3] (zc_quot S a0 a1 a2 a3).1) h' → Q (.inl (some (.int (zrv (zc_quot S a0 a1 a2 a3).1)))) h') : zT zm_222 [.ref 75, .int a0, .int a1, .int a2, .int a3] p (zh K (code, rf, rs, bad, pr, pn, J) (m, pa, pb, pc, vf, vs, B) w) Q := by
  have bad2 : (zisr a0 = false ∨ zise a0 a1 0 = false ∨ zise a0 a2 0 = false ∨ zpar a3 = false) → Q (.inl (some (.int (0 : Int32)))) (zh K ((1 : Int32), rf, rs, bad, pr, pn, J) (m, pa, pb, pc, vf, vs, B) w) := fun c =>
    zfin (S := S) (x := .inr 2) (S' := S) H (by rw [zc_quot, if_pos c]) m _ hR ⟨_, _, _, _, _, _, _, _, _, _, rfl⟩
  refine b222 ⟨fun c0 => bad2 (Or.inl c0), fun c0 k hk ek => ?_⟩
  rw [← ek]
  refine ⟨fun c1 => bad2 (Or.inr (Or.inl c1)), fun c1 => ⟨fun c2 => bad2 (Or.inr (Or.inr (Or.inl c2))), fun c2 => ⟨fun c3 k3 hk3 ek3 => ?_, fun c3 => bad2 (Or.inr (Or.inr (Or.inr c3)))⟩⟩⟩
  have hn : ¬ (zisr a0 = false ∨ zise a0 a1 0 = false ∨ zise a0 a2 0 = false ∨ zpar a3 = false) := by
    rw [c0, c1, c2, show zpar a3 = true from c3]; decide
  have o1 := c1
  have o2 := c2
  rw [ek, zise_ok hk] at o1 o2
  refine ⟨fun hz => ?_, fun hz => zfin (S := S) (x := .inr 3) (S' := S) H (by rw [zc_quot, if_neg hn, if_pos hz]) m _ hR ⟨_, _, _, _, _, _, _, _, _, _, rfl⟩⟩
  rw [ek]
  have hF := zfin (S := S) (x := .inl (zpv (zquo k (a1, 0) (a2, 0)) a3)) (S' := S) H (by rw [zc_quot, if_neg hn, if_neg hz, ek, znn_o (zrg_lt hk)])
  rw [zpv_n hk3.2 ek3] at hF
  refine s191 hk o1 o2 (fun h => hz (congrArg Prod.fst h)) (fun pa' pb' pc' => b222_71 ⟨by omega, fun h0 => ?_, fun h0 => ?_⟩)
  · rw [if_neg h0] at hF
    exact hF m _ hR ⟨_, _, _, _, _, _, _, _, _, _, rfl⟩
  · rw [if_pos h0] at hF
    exact hF m _ hR ⟨_, _, _, _, _, _, _, _, _, _, rfl⟩
theorem r_gcd {K : zKt} {code rf rs pr pn : Int32} {bad : Bool} {J : zJt} {m pa pb pc vf vs : Nat → Int32} {B : zBt} {w : Nat → Int64} {p : Nat × Nat} {Q : zR → zH → Prop} {S : zSs} {a0 a1 a2 a3 a4 a5 : Int32} (hR : zRS m S) (H : ∀ m' h', zRS m' (zc_gcd S a0 a1 a2 a3 a4 a5).2 → zRH K J B w m' (zcd [2] (zc_gcd S a0 a1 a2 a3 a4 a5).1) h' → Q (.inl (some (.int (zrv (zc_gcd S a0 a1 a2 a3 a4 a5).1)))) h') : zT zm_223 [.ref 75, .int a0, .int a1, .int a2, .int a3, .int a4, .int a5] p (zh K (code, rf, rs, bad, pr, pn, J) (m, pa, pb, pc, vf, vs, B) w) Q := by
  have bad2 : (zisr a0 = false ∨ zise a0 a1 a2 = false ∨ zise a0 a3 a4 = false ∨ zpar a5 = false) → Q (.inl (some (.int (0 : Int32)))) (zh K ((1 : Int32), rf, rs, bad, pr, pn, J) (m, pa, pb, pc, vf, vs, B) w) := fun c =>
    zfin (S := S) (x := .inr 2) (S' := S) H (by rw [zc_gcd, if_pos c]) m _ hR ⟨_, _, _, _, _, _, _, _, _, _, rfl⟩
  refine b223 ⟨fun c0 => bad2 (Or.inl c0), fun c0 k hk ek => ?_⟩
  rw [← ek]
  refine ⟨fun c1 => bad2 (Or.inr (Or.inl c1)), fun c1 => ⟨fun c2 => bad2 (Or.inr (Or.inr (Or.inl c2))), fun c2 => ⟨fun c3 k3 hk3 ek3 => ?_, fun c3 => bad2 (Or.inr (Or.inr (Or.inr c3)))⟩⟩⟩
  have hn : ¬ (zisr a0 = false ∨ zise a0 a1 a2 = false ∨ zise a0 a3 a4 = false ∨ zpar a5 = false) := by
    rw [c0, c1, c2, show zpar a5 = true from c3]; decide
  have o1 := c1
  have o2 := c2
  rw [ek, zise_ok hk] at o1 o2
  rw [ek]
  have hF := zfin (S := S) (x := .inl (zpv (zgv k (zgc k 1000 (a1, a2) (a3, a4))) a5)) (S' := S) H (by rw [zc_gcd, if_neg hn, ek, znn_o (zrg_lt hk)])
  rw [zpv_n hk3.2 ek3] at hF
  have fin : ∀ (x y rf rs : Int32) (pa pb pc : Nat → Int32), zok k (x, y) → zgc k 1000 (a1, a2) (a3, a4) = (x, y) → ((zzr x y = false → zT zm_198 [.ref 75, .int (Int32.ofNat k), .int x, .int y] p (zh K ((0 : Int32), rf, rs, false, pr, pn, J) (m, pa, pb, pc, vf, vs, B) w) (zK zm_223 149 [some (.ref 75), some (.int (Int32.ofNat k)), none, none, none, none, some (.int (Int32.ofNat k3)), some (.int x), some (.int y), none, none, none] [] p Q)) ∧ (zzr x y = true → Q (.inl (some (.int (0 : Int32)))) (zh K ((0 : Int32), rf, rs, false, pr, pn, J) (m, pa, pb, pc, vf, vs, B) w))) := by
    intro x y rf rs pa pb pc hxy eg
    rw [eg] at hF
    refine ⟨fun hz => ?_, fun hz => ?_⟩
    · refine s198 hk hxy ((zzr_f (a := (x, y))).mp hz) (fun pa' => b223_149 ?_)
      refine s157 hk (zok_0 hk) (zun_ok hk (zun_nrm hk hxy)) hxy (fun pa2 pb2 pc2 => b223_168 ?_)
      rw [show zplus k (0, 0) ((znrm k (x, y)).1, (znrm k (x, y)).2) (x, y) = some (zgv k (x, y)) from (zgv_s hk hxy).2]
      refine ⟨by omega, fun h0 => ?_, fun h0 => ?_⟩
      · rw [if_neg h0] at hF
        exact hF m _ hR ⟨_, _, _, _, _, _, _, _, _, _, rfl⟩
      · rw [if_pos h0] at hF
        exact hF m _ hR ⟨_, _, _, _, _, _, _, _, _, _, rfl⟩
    · have : (x, y) = ((0, 0) : zE2) := (zzr_t (a := (x, y))).mp hz
      rw [this, zgv_0 hk] at hF
      have : (if k3 = 0 then (((0, 0) : zE2)).1 else (((0, 0) : zE2)).2) = (0 : Int32) := by split <;> rfl
      rw [this] at hF
      exact hF m _ hR ⟨_, _, _, _, _, _, _, _, _, _, rfl⟩
  have lp : ∀ (n i : Nat) (x y z u rf rs : Int32) (pa pb pc : Nat → Int32), i + n = 1000 → zok k (x, y) → zok k (z, u) → zgc k n (x, y) (z, u) = zgc k 1000 (a1, a2) (a3, a4) → zW zm_223 71 [some (.ref 75), some (.int (Int32.ofNat k)), none, none, none, none, some (.int (Int32.ofNat k3)), some (.int x), some (.int y), some (.int z), some (.int u), some (.int (Int32.ofNat i))] [] p (zh K ((0 : Int32), rf, rs, false, pr, pn, J) (m, pa, pb, pc, vf, vs, B) w) Q := by
    intro n
    induction n with
    | zero =>
      intro i x y z u rf rs pa pb pc hi h1 h2 eg
      exact b223_71 ⟨by omega, fun _ => fin x y rf rs pa pb pc h1 eg.symm, fun h => (by omega)⟩
    | succ n ih =>
      intro i x y z u rf rs pa pb pc hi h1 h2 eg
      refine b223_71 ⟨by omega, fun h => (by omega), fun _ => ⟨fun hz => ?_, fun hz => ?_⟩⟩
      · rw [zgc, if_pos ((zzr_t (a := (z, u))).mp hz)] at eg
        exact fin x y rf rs pa pb pc h1 eg.symm
      · have hz0 := (zzr_f (a := (z, u))).mp hz
        obtain ⟨v, ev⟩ := zrem_some hk h1 h2 hz0
        rw [zgc, if_neg hz0, ev] at eg
        have hv : zok k v := zok_plus hk h1 (zok_neg hk (zok_quo hk h1 h2 hz0)) h2 ev
        refine s204 hk h1 h2 hz0 (fun pa' pb' pc' => b223_102 ?_)
        rw [ev]
        exact ih (i + 1) z u v.1 v.2 _ _ _ _ _ (by omega) h2 hv eg
  exact lp 1000 0 a1 a2 a3 a4 rf rs pa pb pc (by omega) o1 o2 rfl
theorem k_quot {P : zPt} {T : Nat → zX} {Y : zYt} {I : zIt} {A : zAt} {w : Nat → Int64} {p : Nat × Nat} {Q : zR → zH → Prop} {S : zSs} {a0 a1 a2 a3 : Int32} (hC : zCS T S) (H : ∀ T' h', zCS T' (zc_quot S a0 a1 a2 a3).2 → zCH Y I A w T' h' → Q (zRo (zc_quot S a0 a1 a2 a3).1) h') : zT zm_130 [.ref 0, .int a0, .int a1, .int a2, .int a3] p (zh (P, T, Y) I A w) Q := by
  have bad2 : (zisr a0 = false ∨ zise a0 a1 0 = false ∨ zise a0 a2 0 = false ∨ zpar a3 = false) → Q (.inr 2) (zh (P, T, Y) I A w) := fun c =>
    kfin (x := .inr 2) (S' := S) H (by rw [zc_quot, if_pos c]) T _ hC ⟨P, rfl⟩
  refine b130 ⟨fun c0 k hk ek => ?_, fun c0 => bad2 (Or.inl c0)⟩
  rw [← zc64]
  refine c_inr hk (b130_15 ⟨fun c1 => bad2 (Or.inr (Or.inl (by rw [ek]; exact c1))), fun c1 => ?_⟩)
  rw [← zc64]
  refine c_inr hk (b130_26 ⟨fun c2 => bad2 (Or.inr (Or.inr (Or.inl (by rw [ek]; exact c2)))), fun c2 => ?_⟩)
  rw [zprt_e]
  refine ⟨fun c3 => bad2 (Or.inr (Or.inr (Or.inr c3))), fun c3 => ?_⟩
  have hn : ¬ (zisr a0 = false ∨ zise a0 a1 0 = false ∨ zise a0 a2 0 = false ∨ zpar a3 = false) := by
    rw [c0, ek, c1, c2, c3]; decide
  have o1 := (zise_ok hk).mp c1
  have o2 := (zise_ok hk).mp c2
  refine ⟨fun hz => ?_, fun hz => kfin (x := .inr 3) (S' := S) H (by rw [zc_quot, if_neg hn, if_pos hz]) T _ hC ⟨P, rfl⟩⟩
  rw [← zc64]
  refine c_quo (a := (a1, 0)) (b := (a2, 0)) hk o1 o2 (fun h => hz (congrArg Prod.fst h)) (fun P' => b130_76 ?_)
  rw [zpo_e]
  exact kfin (x := .inl (zpv (zquo k (a1, 0) (a2, 0)) a3)) (S' := S) H (by rw [zc_quot, if_neg hn, if_neg hz, ek, znn_o (zrg_lt hk)]) T _ hC ⟨P', rfl⟩
theorem k_gcd {P : zPt} {T : Nat → zX} {Y : zYt} {I : zIt} {A : zAt} {w : Nat → Int64} {p : Nat × Nat} {Q : zR → zH → Prop} {S : zSs} {a0 a1 a2 a3 a4 a5 : Int32} (hC : zCS T S) (H : ∀ T' h', zCS T' (zc_gcd S a0 a1 a2 a3 a4 a5).2 → zCH Y I A w T' h' → Q (zRo (zc_gcd S a0 a1 a2 a3 a4 a5).1) h') : zT zm_131 [.ref 0, .int a0, .int a1, .int a2, .int a3, .int a4, .int a5] p (zh (P, T, Y) I A w) Q := by
  have bad2 : (zisr a0 = false ∨ zise a0 a1 a2 = false ∨ zise a0 a3 a4 = false ∨ zpar a5 = false) → Q (.inr 2) (zh (P, T, Y) I A w) := fun c =>
    kfin (x := .inr 2) (S' := S) H (by rw [zc_gcd, if_pos c]) T _ hC ⟨P, rfl⟩
  refine b131 ⟨fun c0 k hk ek => ?_, fun c0 => bad2 (Or.inl c0)⟩
  refine c_inr hk (b131_16 ⟨fun c1 => bad2 (Or.inr (Or.inl (by rw [ek]; exact c1))), fun c1 => ?_⟩)
  refine c_inr hk (b131_30 ⟨fun c2 => bad2 (Or.inr (Or.inr (Or.inl (by rw [ek]; exact c2)))), fun c2 => ?_⟩)
  rw [zprt_e]
  refine ⟨fun c3 => bad2 (Or.inr (Or.inr (Or.inr c3))), fun c3 => ?_⟩
  have hn : ¬ (zisr a0 = false ∨ zise a0 a1 a2 = false ∨ zise a0 a3 a4 = false ∨ zpar a5 = false) := by
    rw [c0, ek, c1, c2, c3]; decide
  have o1 := (zise_ok hk).mp c1
  have o2 := (zise_ok hk).mp c2
  have hF := kfin (x := .inl (zpv (zgv k (zgc k 1000 (a1, a2) (a3, a4))) a5)) (S' := S) H (by rw [zc_gcd, if_neg hn, ek, znn_o (zrg_lt hk)])
  have fin : ∀ (x : zE2) P, zok k x → zgc k 1000 (a1, a2) (a3, a4) = x → zT (zrm k zm_22 zm_7 zm_68) [.ref (zra k), .long (zen x)] p (zh (P, T, Y) I A w) (zK zm_131 123 [none, none, none, none, none, none, some (.int a5), none, none, none, none, none, none, none, none] [.long (zen x), .ref (zra k)] p Q) := by
    intro x P hx eg
    rw [eg] at hF
    refine c_nrm hk hx (fun P1 => b131_123 ?_)
    refine c_mul hk hx (zun_ok hk (zun_nrm hk hx)) (fun v ev P2 => b131_126 ?_) (fun en => by rw [(zgv_s hk hx).1] at en; cases en)
    rw [(zgv_s hk hx).1] at ev
    cases ev
    rw [zpo_e]
    exact hF T _ hC ⟨P2, rfl⟩
  have lp : ∀ (n i : Nat) (x z : zE2) P, i + n = 1000 → zok k x → zok k z → zgc k n x z = zgc k 1000 (a1, a2) (a3, a4) → zW zm_131 72 [none, none, none, none, none, none, some (.int a5), some (.ref (zra k)), some (.long (zen x)), none, some (.long (zen z)), none, some (.int (Int32.ofNat i)), none, none] [] p (zh (P, T, Y) I A w) Q := by
    intro n
    induction n with
    | zero =>
      intro i x z P hi h1 h2 eg
      exact b131_72 ⟨by omega, fun _ => fin x P h1 eg.symm, fun h => (by omega)⟩
    | succ n ih =>
      intro i x z P hi h1 h2 eg
      refine b131_72 ⟨by omega, fun h => (by omega), fun _ => ⟨fun hz => ?_, fun hz => ?_⟩⟩
      · rw [zgc, if_pos (zen_z.mp hz)] at eg
        exact fin x P h1 eg.symm
      · have hz0 : z ≠ (0, 0) := fun h => hz (zen_z.mpr h)
        obtain ⟨v, ev⟩ := zrem_some hk h1 h2 hz0
        rw [zgc, if_neg hz0, ev] at eg
        have hv : zok k v := zok_plus hk h1 (zok_neg hk (zok_quo hk h1 h2 hz0)) h2 ev
        refine c_rem hk h1 h2 hz0 (fun v' ev' P' => b131_96 ?_)
        rw [ev] at ev'
        cases ev'
        exact ih (i + 1) z v P' (by omega) h2 hv eg
  exact lp 1000 0 (a1, a2) (a3, a4) P (by omega) o1 o2 rfl
