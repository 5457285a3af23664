/-! DETERMINANT -/
def zdt1 (r : Nat) (E : zMe) : Nat → Nat → zE2 → Option zE2
  | 0, _, v => some v
  | n + 1, k, v => (zplus r (0, 0) v (E k k)).bind (zdt1 r E n (k + 1))
def zdts (r : Nat) (s : zSt) (v : zE2) : Option zE2 := if s.1 = 0 then some (zneg r v) else if s.1 = 2 then zplus r (0, 0) v (zinv r s.2.2.2) else some v
def zdt2 (r : Nat) (g : Nat → zSt) : Nat → Nat → zE2 → Option zE2
  | 0, _, v => some v
  | n + 1, k, v => (zdts r (g k) v).bind (zdt2 r g n (k + 1))
def zdt (r h : Nat) (σ : zFo) : Option zE2 := (zdt1 r σ.2.1 h 0 (1, 0)).bind (zdt2 r σ.2.2 σ.1 0)
def zc_det (S : zSs) (a0 a1 : Int32) : (Int32 ⊕ Nat) × zSs := zwith S a0 (fun X => if X.2.1 = X.2.2.1 then (if zpar a1 = true then (match zfH (zfr0 X) with
  | none => (.inr 3, S)
  | some q => if X.2.1 ≤ q.1 then (match zdt X.1 X.2.1 q.2 with
    | none => (.inr 3, S)
    | some v => (.inl (zpv v a1), S)) else (.inl 0, S)) else (.inr 2, S)) else (.inr 1, S))
theorem zdts_ok {r h d : Nat} (hr : zrg r) {s : zSt} (hs : zsv r h d s) {v u : zE2} (hv : zok r v) (e : zdts r s v = some u) : zok r u := by
  unfold zdts at e
  split at e
  · cases e; exact zok_neg hr hv
  · split at e
    · rename_i h2
      exact zok_plus hr (zok_0 hr) hv (zun_ok hr (zun_inv hr (hs.2.2.2.1 (by rw [h2])).2)) e
    · cases e; exact hv
def zoR (r : Nat) (o : Option zE2) : Prop := ∀ v, o = some v → zok r v
theorem zoR_ok {r : Nat} {o : Option zE2} (hr : zrg r) (h : zoR r o) : zok r ((zres false o).2.1, (zres false o).2.2) := by
  cases o with
  | none => exact zok_0 hr
  | some v => exact h v rfl
theorem zoR_b {r : Nat} {o : Option zE2} {f : zE2 → Option zE2} (h : zoR r o) (hf : ∀ v u, zok r v → f v = some u → zok r u) : zoR r (o.bind f) := by
  intro u e
  cases o with
  | none => cases e
  | some v => exact hf v u (h v rfl) e
theorem zres_b (o : Option zE2) (f : zE2 → Option zE2) : zres (zres false o).1 (f ((zres false o).2.1, (zres false o).2.2)) = zres false (o.bind f) := by
  cases o with
  | none => rfl
  | some v => rfl
/-- multipliesDiagonal -/
theorem s216 {K : zKt} {code rf rs pr pn : Int32} {J : zJt} {m pa pb pc vf vs : Nat → Int32} {B : zBt} {w : Nat → Int64} {p : Nat × Nat} {Q : zR → zH → Prop} {r h d : Nat} {O : zMe} {σ : zFo} (hsh : zsh r h d) (hhd : h ≤ d) (hb : zRb m 3204 r h d O σ) (hw : zwf r h d O σ)
    (H : ∀ pa' pb' pc', Q (.inl none) (zh K (code, (zres false (zdt r h σ)).2.1, (zres false (zdt r h σ)).2.2, (zres false (zdt r h σ)).1, pr, pn, J) (m, pa', pb', pc', vf, vs, B) w)) : zT zm_216 [.ref 75, .int (Int32.ofNat h)] p (zh K (code, rf, rs, false, pr, pn, J) (m, pa, pb, pc, vf, vs, B) w) Q := by
  have hr := hsh.1
  have hr7 := zrg_lt hr
  have h4 := hsh.2.2.1
  have h5 := hsh.2.2.2.2
  have hc : σ.1 ≤ 200 := hw.1
  have l2 : ∀ (n x : Nat) (o : Option zE2) (pa pb pc : Nat → Int32), x + n = σ.1 → zoR r o → o.bind (zdt2 r σ.2.2 n x) = zdt r h σ → zW zm_216 75 [some (.ref 75), none, some (.int (Int32.ofNat r)), some (.int (Int32.ofNat x)), none, none] [] p (zh K (code, (zres false o).2.1, (zres false o).2.2, (zres false o).1, pr, pn, J) (m, pa, pb, pc, vf, vs, B) w) Q := by
    intro n
    induction n with
    | zero =>
      intro x o pa pb pc hx ho eo
      have eo' : o = zdt r h σ := by
        rw [← eo]
        cases o <;> rfl
      subst eo'
      refine b216_75 ?_
      rw [show m 3207 = Int32.ofNat σ.1 from hb.2.1, zN_leI (by omega) (by omega)]
      exact ⟨fun _ => H pa pb pc, fun h => absurd (by omega) h⟩
    | succ n ih =>
      intro x o pa pb pc hx ho eo
      have hx' : x < σ.1 := by omega
      have hs := hw.2.2.2.1 x hx'
      have h6 := hs.1
      obtain ⟨g1, g2, g3, g4, g5⟩ := hb.2.2.2.2 x hx'
      rw [show 3204 + 68 + 5 * x = 3272 + 5 * x by omega] at g1 g2 g3 g4 g5
      have nx : ∀ u, u = o.bind (zdts r (σ.2.2 x)) → zoR r u ∧ u.bind (zdt2 r σ.2.2 n (x + 1)) = zdt r h σ := by
        intro u eu
        refine ⟨by rw [eu]; exact zoR_b ho (fun v u hv e => zdts_ok hr hs hv e), ?_⟩
        rw [eu, ← eo]
        cases o <;> rfl
      obtain ⟨n1, n2⟩ := nx _ rfl
      refine b216_75 ?_
      rw [show m 3207 = Int32.ofNat σ.1 from hb.2.1, zN_leI (by omega) (by omega), g1, g4, g5]
      refine ⟨fun h => absurd h (by omega), fun _ => ⟨by omega, fun k0 => ⟨fun k2 => ?_, fun k2 => ?_⟩, fun k0 => ?_⟩⟩
      · have e1 : zdts r (σ.2.2 x) = some := by
          funext v
          unfold zdts
          rw [if_neg (fun h => k0 (by rw [h]; rfl)), if_neg (fun h => k2 (by rw [h]; rfl))]
        have e2 : o.bind (zdts r (σ.2.2 x)) = o := by rw [e1]; cases o <;> rfl
        rw [e2] at n1 n2
        exact ih (x + 1) o pa pb pc (by omega) n1 n2
      · have k2' : (σ.2.2 x).1 = 2 := zN_inj (by omega) (by omega) k2
        have hu := (hs.2.2.2.1 (by rw [k2'])).2
        have hiu := zun_ok hr (zun_inv hr hu)
        have e1 : zdts r (σ.2.2 x) = fun v => zplus r (0, 0) (zinv r (σ.2.2 x).2.2.2) v := by
          funext v
          unfold zdts
          rw [if_neg (by omega), if_pos k2', zplus_cm hr]
        rw [e1] at n1 n2
        have key := zres_b o (fun v => zplus r (0, 0) (zinv r (σ.2.2 x).2.2.2) v)
        have go : ∀ pa pb pc, zT zm_157 [.ref 75, .int (Int32.ofNat r), .int (0 : Int32), .int (0 : Int32), .int (zinv r (σ.2.2 x).2.2.2).1, .int (zinv r (σ.2.2 x).2.2.2).2, .int (zres false o).2.1, .int (zres false o).2.2] p (zh K (code, (zres false o).2.1, (zres false o).2.2, (zres false o).1, pr, pn, J) (m, pa, pb, pc, vf, vs, B) w) (zK zm_216 192 [some (.ref 75), none, some (.int (Int32.ofNat r)), some (.int (Int32.ofNat x)), none, none] [] p Q) := by
          intro pa pb pc
          refine s157 hr (zok_0 hr) hiu (zoR_ok hr ho) (fun pa' pb' pc' => b216_192 ?_)
          rw [show zres (zres false o).1 (zplus r (0, 0) ((zinv r (σ.2.2 x).2.2.2).1, (zinv r (σ.2.2 x).2.2.2).2) ((zres false o).2.1, (zres false o).2.2)) = _ from key]
          exact ih (x + 1) _ pa' pb' pc' (by omega) n1 n2
        refine ⟨fun hr1 => ⟨by omega, by omega, ?_⟩, fun hr1 => ⟨by omega, ?_⟩⟩
        · rw [show (1 : Int32) = Int32.ofNat 1 from rfl, zN_leI (by omega) (by omega)] at hr1
          have e3 : ((σ.2.2 x).2.2.2.1, -(σ.2.2 x).2.2.2.2) = zinv r (σ.2.2 x).2.2.2 := by
            have : r = 0 ∨ r = 1 := by omega
            rcases this with rfl | rfl
            · refine Prod.ext rfl ?_
              show -(σ.2.2 x).2.2.2.2 = (σ.2.2 x).2.2.2.2
              rw [hu.2]; decide
            · rfl
          have := go pa pb pc
          rw [← e3] at this
          exact this
        · rw [show (1 : Int32) = Int32.ofNat 1 from rfl, zN_leI (by omega) (by omega)] at hr1
          have hq : zprm r := by unfold zrg at hr; unfold zprm; omega
          obtain ⟨v, v1, v2, ev⟩ := (zun_p hq).mp hu
          rw [ev]
          refine s194 hq (by omega) v2 (b216_151 ⟨by omega, ?_⟩)
          have := go pa pb pc
          rw [ev, zinv_p hq v2] at this
          rw [g5, ev, show -((Int32.ofNat v, (0 : Int32)) : zE2).2 = (0 : Int32) by show -(0 : Int32) = 0; decide]
          exact this
      · have k0' : (σ.2.2 x).1 = 0 := zN_inj (by omega) (by omega) k0
        have e1 : zdts r (σ.2.2 x) = fun v => some (zneg r v) := by
          funext v
          unfold zdts
          rw [if_pos k0']
        rw [e1] at n1 n2
        have key := zres_b o (fun v => some (zneg r v))
        refine s195 hr (zoR_ok hr ho) (fun pa' pb' pc' => b216_119 ?_)
        rw [show zres (zres false o).1 (some (zneg r ((zres false o).2.1, (zres false o).2.2))) = _ from key]
        exact ih (x + 1) _ pa' pb' pc' (by omega) n1 n2
  have l1 : ∀ (n x : Nat) (o : Option zE2) (pa pb pc : Nat → Int32), x + n = h → zoR r o → o.bind (zdt1 r σ.2.1 n x) = zdt1 r σ.2.1 h 0 (1, 0) → zW zm_216 21 [some (.ref 75), some (.int (Int32.ofNat h)), some (.int (Int32.ofNat r)), some (.int (Int32.ofNat x)), none, none] [] p (zh K (code, (zres false o).2.1, (zres false o).2.2, (zres false o).1, pr, pn, J) (m, pa, pb, pc, vf, vs, B) w) Q := by
    intro n
    induction n with
    | zero =>
      intro x o pa pb pc hx ho eo
      have eo' : o = zdt1 r σ.2.1 h 0 (1, 0) := by
        rw [← eo]
        cases o <;> rfl
      refine b216_21 ⟨by omega, by omega, fun _ => l2 σ.1 0 o pa pb pc (by omega) ho (by rw [eo']; rfl), fun h => (by omega)⟩
    | succ n ih =>
      intro x o pa pb pc hx ho eo
      have em := hb.2.2.1 x x (by omega) (by omega)
      refine b216_21 ⟨by omega, by omega, fun h => (by omega), fun _ => ⟨by omega, by omega, ?_⟩⟩
      rw [show m (3208 + 8 * x + 2 * x) = _ from em.1, show m (3208 + 8 * x + 2 * x + 1) = _ from em.2]
      have key := zres_b o (fun v => zplus r (0, 0) v (σ.2.1 x x))
      refine s157 hr (zok_0 hr) (zoR_ok hr ho) (hw.2.1.1 x x) (fun pa' pb' pc' => b216_67 ?_)
      rw [show zres (zres false o).1 (zplus r (0, 0) ((zres false o).2.1, (zres false o).2.2) ((σ.2.1 x x).1, (σ.2.1 x x).2)) = _ from key]
      refine ih (x + 1) _ pa' pb' pc' (by omega) (zoR_b ho (fun v u hv e => zok_plus hr (zok_0 hr) hv (hw.2.1.1 x x) e)) ?_
      rw [← eo]
      cases o <;> rfl
  refine b216 ?_
  rw [show m 3204 = Int32.ofNat r from hb.1.1]
  exact l1 h 0 (some (1, 0)) pa pb pc (by omega) (fun v e => by cases e; exact zok_1 hr) rfl
theorem r_det {K : zKt} {code rf rs pr pn : Int32} {bad : Bool} {J : zJt} {m pa pb pc vf vs : Nat → Int32} {B : zBt} {w : Nat → Int64} {p : Nat × Nat} {Q : zR → zH → Prop} {S : zSs} {a0 a1 : Int32} (hw : zSw S) (hR : zRS m S) (H : ∀ m' h', zRS m' (zc_det S a0 a1).2 → zRH K J B w m' (zcd [0, 1, 2, 3] (zc_det S a0 a1).1) h' → Q (.inl (some (.int (zrv (zc_det S a0 a1).1)))) h') : zT zm_215 [.ref 75, .int a0, .int a1] p (zh K (code, rf, rs, bad, pr, pn, J) (m, pa, pb, pc, vf, vs, B) w) Q := by
  refine b215 (s169 hw hR (fun c0 => b215_5 ⟨fun h => absurd h (by decide), fun _ => zfin (S := S) H (zwith_0 c0) m _ hR ⟨_, _, _, _, _, _, _, _, _, _, rfl⟩⟩) (fun k hk ek c0 e => b215_5 ⟨fun h => absurd h (by decide), fun _ => zfin (S := S) H (zwith_1 c0 hk ek e) m _ hR ⟨_, _, _, _, _, _, _, _, _, _, rfl⟩⟩) (fun k X hk ek c0 e => ?_))
  have hX := hw k X hk e
  have hb := zRS_b hR hk e
  have h4 := hX.1.2.2.1
  have h5 := hX.1.2.2.2.2
  have ex : zc_det S a0 a1 = _ := zwith_2 c0 hk ek e
  refine b215_5 ⟨fun _ => ⟨1068 * k + 1, zN_a (zN_m rfl ek) rfl, by omega, 1068 * k + 2, zN_a (zN_m rfl ek) rfl, by omega, ?_⟩, fun h => absurd (by decide) h⟩
  rw [hb.1.2.1, hb.1.2.2, ek]
  refine ⟨fun ehd => ⟨fun c2 k2 hk2 ek2 => ?_, fun c2 => ?_⟩, fun hne => zfin (S := S) (x := .inr 1) (S' := S) H (ex.trans (if_neg (fun h => hne (by rw [h])))) m _ hR ⟨_, _, _, _, _, _, _, _, _, _, rfl⟩⟩
  · have ehd' : X.2.1 = X.2.2.1 := zN_inj (by omega) (by omega) ehd
    have ex := (ex.trans (if_pos ehd')).trans (if_pos c2)
    refine s173 hk (fun m1 f1 f2 => b215_74 ?_)
    have hb1 := zRb_cp f2 hX.2.1 hb
    have hR1 := zRS_fr hR hw f1 (by omega)
    refine s146 (β := 3204) (by omega) hb1.1 hb1.2.2.1 (fun m2 g1 g2 => b215_81 ?_)
    have hR2 := zRS_fr hR1 hw g1 (by omega)
    refine s184 (β := 3204) (O := X.2.2.2.2.2.1) (σ := (0, X.2.2.2.2.2.1, zg0)) hX.1 (by omega) (⟨rfl, g2 zg0, zwf_0 hX.2.2.1⟩ : zGB false m2 3204 X.1 X.2.1 X.2.2.1 X.2.2.2.2.2.1 (some (0, X.2.2.2.2.2.1, zg0))) (fun ρ τ eτ rf' rs' pa' pb' pc' m3 k1' k2' => b215_88 ⟨fun _ => ?_, fun h => (by cases h)⟩) (fun eτ rv rf' rs' pa' pb' pc' m3 k1' k2' => b215_88 ⟨fun h => (by cases h), fun _ => ?_⟩)
    · have hR3 := zRS_fr hR2 hw k1' (by omega)
      obtain ⟨_, hb3, hw3⟩ := k2'
      have hρ : ρ ≤ X.2.1 := zhrm_le _ _ _ _ _ _ (Nat.zero_le _) eτ
      rw [show zfH (zfr0 X) = some (ρ, τ) from eτ] at ex
      rw [zN_leI (by omega) (by omega)]
      refine ⟨fun hle => ?_, fun hle => zfin (S := S) (x := .inl 0) (S' := S) H (ex.trans (if_neg hle)) m3 _ hR3 ⟨_, _, _, _, _, _, _, _, _, _, rfl⟩⟩
      have ex := ex.trans (if_pos hle)
      refine s216 hX.1 (by omega) hb3 hw3 (fun pa2 pb2 pc2 => b215_118 ?_)
      cases ez : zdt X.1 X.2.1 τ with
      | none =>
        rw [show zdt X.1 X.2.1 ((ρ, τ) : Nat × zFo).2 = none from ez] at ex
        exact ⟨fun h => (by cases h), fun _ => zfin (S := S) (x := .inr 3) (S' := S) H ex m3 _ hR3 ⟨_, _, _, _, _, _, _, _, _, _, rfl⟩⟩
      | some v =>
        rw [show zdt X.1 X.2.1 ((ρ, τ) : Nat × zFo).2 = some v from ez] at ex
        have hF := zfin (S := S) (x := .inl (zpv v a1)) (S' := S) H ex
        rw [zpv_n hk2.2 ek2] at hF
        refine ⟨fun _ => ⟨by omega, fun h0 => ?_, fun h0 => ?_⟩, fun h => (by cases h)⟩
        · rw [if_neg h0] at hF
          exact hF m3 _ hR3 ⟨_, _, _, _, _, _, _, _, _, _, rfl⟩
        · rw [if_pos h0] at hF
          exact hF m3 _ hR3 ⟨_, _, _, _, _, _, _, _, _, _, rfl⟩
    · rw [show zfH (zfr0 X) = none from eτ] at ex
      exact zfin (S := S) (x := .inr 3) (S' := S) H ex m3 _ (zRS_fr hR2 hw k1' (by omega)) ⟨_, _, _, _, _, _, _, _, _, _, rfl⟩
  · have ehd' : X.2.1 = X.2.2.1 := zN_inj (by omega) (by omega) ehd
    exact zfin (S := S) (x := .inr 2) (S' := S) H ((ex.trans (if_pos ehd')).trans (if_neg (by unfold zpar; rw [c2]; decide))) m _ hR ⟨_, _, _, _, _, _, _, _, _, _, rfl⟩
theorem s127 {P : zPt} {T : Nat → zX} {Y : zYt} {I : zIt} {A : zAt} {w : Nat → Int64} {p : Nat × Nat} {Q : zR → zH → Prop} {r h d : Nat} {O : zMe} {σ : zFo} (hsh : zsh r h d) (hhd : h ≤ d) (hX : zCX (T 3) r h d O σ) (hw : zwf r h d O σ)
    (H1 : ∀ v, zdt r h σ = some v → ∀ P', Q (.inl (some (.long (zen v)))) (zh (P', T, Y) I A w)) (H2 : zdt r h σ = none → ∀ P', Q (.inr 3) (zh (P', T, Y) I A w)) : zT zm_127 [.ref 0] p (zh (P, T, Y) I A w) Q := by
  have hr := hsh.1
  have h4 := hsh.2.2.1
  have hc : σ.1 ≤ 200 := hw.1
  have hXb := zCX_b hsh hw hX
  have l2 : ∀ (n x : Nat) (v : zE2) P, x + n = σ.1 → zok r v → zdt2 r σ.2.2 n x v = zdt r h σ → zW zm_127 53 [some (.ref 0), some (.ref (zra r)), some (.long (zen v)), none, some (.int (Int32.ofNat x))] [] p (zh (P, T, Y) I A w) Q := by
    intro n
    induction n with
    | zero =>
      intro x v P hx hv eo
      refine b127_53 ?_
      rw [hX.2.1]
      exact ⟨by omega, by omega, fun _ => H1 v eo.symm P, fun h => (by omega)⟩
    | succ n ih =>
      intro x v P hx hv eo
      have hx' : x < σ.1 := by omega
      have hs := hw.2.2.2.1 x hx'
      have h6 := hs.1
      obtain ⟨g1, g2, g3, g4⟩ := hX.2.2.2.2 x hx'
      rw [zdt2] at eo
      refine b127_53 ?_
      rw [hX.2.1, g1, g4]
      refine ⟨by omega, by omega, fun h => (by omega), fun _ => ⟨by omega, fun k0 => ⟨fun k2 => ?_, fun k2 => ?_⟩, fun k0 => ?_⟩⟩
      · have e1 : zdts r (σ.2.2 x) v = some v := by
          unfold zdts
          rw [if_neg (fun h => k0 (by rw [h]; rfl)), if_neg (fun h => k2 (by rw [h]; rfl))]
        rw [e1] at eo
        exact ih (x + 1) v P (by omega) hv eo
      · have k2' : (σ.2.2 x).1 = 2 := zN_inj (by omega) (by omega) k2
        have hu := (hs.2.2.2.1 (by rw [k2'])).2
        have hiu := zun_ok hr (zun_inv hr hu)
        have e1 : zdts r (σ.2.2 x) v = zplus r (0, 0) v (zinv r (σ.2.2 x).2.2.2) := by
          unfold zdts
          rw [if_neg (by omega), if_pos k2']
        rw [e1] at eo
        refine c_inv hr hu (b127_117 ?_)
        refine c_mul hr hv hiu (fun u eu P' => b127_120 ?_) (fun eu P' => ?_)
        · rw [eu] at eo
          exact ih (x + 1) u P' (by omega) (zok_plus hr (zok_0 hr) hv hiu eu) eo
        · rw [eu] at eo
          exact H2 eo.symm P'
      · have k0' : (σ.2.2 x).1 = 0 := zN_inj (by omega) (by omega) k0
        have e1 : zdts r (σ.2.2 x) v = some (zneg r v) := by
          unfold zdts
          rw [if_pos k0']
        rw [e1] at eo
        exact c_neg hr hv (fun P' => b127_83 (ih (x + 1) _ P' (by omega) (zok_neg hr hv) eo))
  have l1 : ∀ (n x : Nat) (v : zE2) P, x + n = h → zok r v → zdt1 r σ.2.1 n x v = zdt1 r σ.2.1 h 0 (1, 0) → zW zm_127 15 [some (.ref 0), some (.ref (zra r)), some (.long (zen v)), none, some (.int (Int32.ofNat x))] [] p (zh (P, T, Y) I A w) Q := by
    intro n
    induction n with
    | zero =>
      intro x v P hx hv eo
      refine b127_15 ?_
      rw [hX.1.2.1]
      exact ⟨by omega, by omega, fun _ => l2 σ.1 0 v P (by omega) hv (by unfold zdt; rw [← eo]; rfl), fun h => (by omega)⟩
    | succ n ih =>
      intro x v P hx hv eo
      refine b127_15 ?_
      rw [hX.1.2.1]
      refine ⟨by omega, by omega, fun h => (by omega), fun _ => ⟨hXb, ?_⟩⟩
      rw [zxat_e hXb hX.1 hX.2.2.1 hw.2.1 (by omega) (by omega)]
      rw [zdt1] at eo
      refine c_mul hr hv (hw.2.1.1 x x) (fun u eu P' => b127_43 ?_) (fun eu P' => ?_)
      · rw [eu] at eo
        exact ih (x + 1) u P' (by omega) (zok_plus hr (zok_0 hr) hv (hw.2.1.1 x x) eu) eo
      · rw [eu] at eo
        exact H2 (by unfold zdt; rw [← eo]; rfl) P'
  refine b127 ?_
  rw [hX.1.1, ← zen_1]
  exact l1 h 0 (1, 0) P (by omega) (zok_1 hr) rfl
theorem k_det {P : zPt} {T : Nat → zX} {Y : zYt} {I : zIt} {A : zAt} {w : Nat → Int64} {p : Nat × Nat} {Q : zR → zH → Prop} {S : zSs} {a0 a1 : Int32} (hw : zSw S) (hC : zCS T S) (H : ∀ T' h', zCS T' (zc_det S a0 a1).2 → zCH Y I A w T' h' → Q (zRo (zc_det S a0 a1).1) h') : zT zm_126 [.ref 0, .int a0, .int a1] p (zh (P, T, Y) I A w) Q := by
  refine b126 ⟨hC.2, fun c k hk ek => ?_, fun c0 => kfin H (zwith_0 c0) T _ hC ⟨P, rfl⟩, fun c => ?_⟩
  · obtain ⟨X, e⟩ := zfil_k hC hk ek c.2
    have hX := hw k X hk e
    have hx := zCS_x hC hk e
    have h4 := hX.1.2.2.1
    have h5 := hX.1.2.2.2.2
    have ex : zc_det S a0 a1 = _ := zwith_2 c.1 hk ek e
    rw [hx.1.2.1, hx.1.2.2, zprt_e]
    refine ⟨by omega, by omega, fun hne => kfin (x := .inr 1) (S' := S) H (ex.trans (if_neg hne)) T _ hC ⟨P, rfl⟩, fun ehd => ⟨fun c2 => ?_, fun c2 => kfin (x := .inr 2) (S' := S) H ((ex.trans (if_pos ehd)).trans (if_neg (by rw [c2]; decide))) T _ hC ⟨P, rfl⟩⟩⟩
    have ex := (ex.trans (if_pos ehd)).trans (if_pos c2)
    have wX := zwf_0 (g := zg0) hX.2.2.1
    refine s36 (i := 3) (by omega) (by omega) (by omega) hx.1 hx.2.2.1 (fun T1 f1 f2 => b126_40 ?_)
    have hC1 := zCS_w hC f1 (by omega) (zCX_b hX.1 wX (f2 zg0))
    refine s11 (i := 3) (by omega) hX.1 (f2 zg0) wX (fun ρ τ eτ P3 T3 q1 q2 q3 => b126_47 ?_) (fun eτ P3 T3 q1 q2 => ?_)
    · have hC3 := zCS_w hC1 q1 (by omega) (zCX_b hX.1 q3 q2)
      have hρ : ρ ≤ X.2.1 := zhrm_le _ _ _ _ _ _ (Nat.zero_le _) eτ
      rw [show zfH (zfr0 X) = some (ρ, τ) from eτ] at ex
      rw [q2.1.2.1, zN_leI (by omega) (by omega)]
      refine ⟨fun hle => ?_, fun hle => kfin (x := .inl 0) (S' := S) H (ex.trans (if_neg hle)) T3 _ hC3 ⟨P3, rfl⟩⟩
      have ex := ex.trans (if_pos hle)
      refine s127 hX.1 (by omega) q2 q3 (fun v ev P4 => b126_63 ?_) (fun ev P4 => ?_)
      · rw [show zdt X.1 X.2.1 ((ρ, τ) : Nat × zFo).2 = some v from ev] at ex
        rw [zpo_e]
        exact kfin (x := .inl (zpv v a1)) (S' := S) H ex T3 _ hC3 ⟨P4, rfl⟩
      · rw [show zdt X.1 X.2.1 ((ρ, τ) : Nat × zFo).2 = none from ev] at ex
        exact kfin (x := .inr 3) (S' := S) H ex T3 _ hC3 ⟨P4, rfl⟩
    · rw [show zfH (zfr0 X) = none from eτ] at ex
      exact kfin (x := .inr 3) (S' := S) H ex T3 _ (zCS_w hC1 q1 (by omega) q2) ⟨P3, rfl⟩
  · obtain ⟨k, hk, ek, e⟩ := zfil_n hC hw c.1 c.2
    exact kfin H (zwith_1 c.1 hk ek e) T _ hC ⟨P, rfl⟩
