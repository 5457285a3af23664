/-! THE REFERENCE'S pivots and hermiteOf -/
theorem zPv_clr {bad : Bool} {m : Nat → Int32} {β r h d i t q : Nat} {O : zMe} {o : Option zFo} {c : Bool} (hr : zrg r) (hg : zGB bad m β r h d O o) (hi : i < zll h d c) (ht : t < zll h d c) (hit : i ≠ t) (hp : ∀ σ, o = some σ → zlg c σ.2.1 t q ≠ (0, 0)) :
    ∀ σ, o.bind (zclr r h d c i t q) = some σ → zlg c σ.2.1 t q ≠ (0, 0) := by
  intro τ e
  cases o with
  | none => cases e
  | some σ =>
    rw [Option.bind_some] at e
    obtain ⟨_, w2, _⟩ := zclr_w hr hg.2.2 hi ht hit (hp σ rfl) e
    rw [w2 t q (fun h => hit h.symm)]
    exact hp σ rfl
theorem l187r {K : zKt} {code pr pn : Int32} {J : zJt} {vf vs : Nat → Int32} {B : zBt} {w : Nat → Int64} {p : Nat × Nat} {Q : zR → zH → Prop} {β r h d ρ q : Nat} {O : zMe} {m0 : Nat → Int32} {oF : Option zFo} (hsh : zsh r h d) (hB : β + 1068 ≤ 5340) (hρ : ρ < h) (hq : q < d)
    (H : ∀ rf' rs' pa' pb' pc' m' bad', zfr β m0 m' → zGB bad' m' β r h d O oF → Q (.inl none) (zh K (code, rf', rs', bad', pr, pn, J) (m', pa', pb', pc', vf, vs, B) w)) :
    ∀ (y x : Nat) (rf rs : Int32) (pa pb pc m : Nat → Int32) (bad : Bool) (o : Option zFo), x + y = ρ → zfr β m0 m → zGB bad m β r h d O o → (∀ σ, o = some σ → zlg false σ.2.1 ρ q ≠ (0, 0)) → zclrs r h d false ρ q y x o = oF →
    zW zm_187 116 [some (.ref 75), some (.int (Int32.ofNat β)), some (.int (Int32.ofNat ρ)), some (.int (Int32.ofNat q)), none, some (.int (Int32.ofNat x)), none] [] p (zh K (code, rf, rs, bad, pr, pn, J) (m, pa, pb, pc, vf, vs, B) w) Q := by
  have h4 := hsh.2.2.1
  intro y
  induction y with
  | zero =>
    intro x rf rs pa pb pc m bad o hx hf hg hp he
    have he : o = oF := he
    subst he
    exact b187_116 ⟨by omega, by omega, fun _ => H rf rs pa pb pc m bad hf hg, fun h => by omega⟩
  | succ y ih =>
    intro x rf rs pa pb pc m bad o hx hf hg hp he
    refine b187_116 ⟨by omega, by omega, fun h => by omega, fun _ => s190 (c := false) hsh hB hg (show x < h by omega) hρ (by omega) hq hp (fun rf' rs' pa' pb' pc' m' bad' f1 f2 => b187_132 ?_)⟩
    exact ih (x + 1) rf' rs' pa' pb' pc' m' bad' _ (by omega) (zfr_t hf f1) f2 (zPv_clr hsh.1 hg (show x < h by omega) hρ (by omega) hp) he
theorem l187c {K : zKt} {code pr pn : Int32} {J : zJt} {vf vs : Nat → Int32} {B : zBt} {w : Nat → Int64} {p : Nat × Nat} {Q : zR → zH → Prop} {β r h d ρ q : Nat} {O : zMe} {m0 : Nat → Int32} {oF : Option zFo} (hsh : zsh r h d) (hB : β + 1068 ≤ 5340) (hρ : ρ < h) (hq : q < d)
    (H : ∀ rf' rs' pa' pb' pc' m' bad', zfr β m0 m' → zGB bad' m' β r h d O oF → zT zm_185 [.ref 75, .int (Int32.ofNat β), .int (zbi false), .int (Int32.ofNat (ρ + 1)), .int (Int32.ofNat q)] p (zh K (code, rf', rs', bad', pr, pn, J) (m', pa', pb', pc', vf, vs, B) w) (zK zm_187 85 [some (.ref 75), some (.int (Int32.ofNat β)), some (.int (Int32.ofNat ρ)), some (.int (Int32.ofNat q)), none, none, none] [] p Q)) :
    ∀ (y x : Nat) (rf rs : Int32) (pa pb pc m : Nat → Int32) (bad : Bool) (o : Option zFo), x + y = h → ρ < x → zfr β m0 m → zGB bad m β r h d O o → (∀ σ, o = some σ → zlg false σ.2.1 ρ q ≠ (0, 0)) → zclrs r h d false ρ q y x o = oF →
    zW zm_187 46 [some (.ref 75), some (.int (Int32.ofNat β)), some (.int (Int32.ofNat ρ)), some (.int (Int32.ofNat q)), none, none, some (.int (Int32.ofNat x))] [] p (zh K (code, rf, rs, bad, pr, pn, J) (m, pa, pb, pc, vf, vs, B) w) Q := by
  have h4 := hsh.2.2.1
  intro y
  induction y with
  | zero =>
    intro x rf rs pa pb pc m bad o hx hρx hf hg hp he
    have he : o = oF := he
    subst he
    refine b187_46 ⟨by omega, fun _ => ?_, fun hn => absurd (by rw [(zGB_h hg).2.1]; exact (zN_leI (by omega) (by omega)).mpr (by omega)) hn⟩
    rw [show Int32.ofNat ρ + (1 : Int32) = Int32.ofNat (ρ + 1) from zN_a rfl rfl]
    exact H rf rs pa pb pc m bad hf hg
  | succ y ih =>
    intro x rf rs pa pb pc m bad o hx hρx hf hg hp he
    refine b187_46 ⟨by omega, fun hn => absurd hn (by rw [(zGB_h hg).2.1, zN_leI (by omega) (by omega)]; omega), fun _ => s190 (c := false) hsh hB hg (show x < h by omega) hρ (by omega) hq hp (fun rf' rs' pa' pb' pc' m' bad' f1 f2 => b187_69 ?_)⟩
    exact ih (x + 1) rf' rs' pa' pb' pc' m' bad' _ (by omega) (by omega) (zfr_t hf f1) f2 (zPv_clr hsh.1 hg (show x < h by omega) hρ (by omega) hp) he
theorem zpvl_n {r h d ρ q n i : Nat} {σ : zFo} (hs : zsml r σ.2.1 q (h - ρ) ρ none 0 = some i) (hz : zclrs r h d false ρ q (h - (ρ + 1)) (ρ + 1) (zswp r h d 0 ρ i σ) = none) : zpvl r h d ρ q (n + 1) σ = none := by
  simp only [zpvl, hs, hz]
theorem zpvl_s {r h d ρ q n i : Nat} {σ τ : zFo} (hs : zsml r σ.2.1 q (h - ρ) ρ none 0 = some i) (hz : zclrs r h d false ρ q (h - (ρ + 1)) (ρ + 1) (zswp r h d 0 ρ i σ) = some τ) : zpvl r h d ρ q (n + 1) σ = if zicl false τ.2.1 q (ρ + 1) h = true then some τ else zpvl r h d ρ q n τ := by
  simp only [zpvl, hs, hz]
/-- a turn of the loop: where the pivot is not 0, and steps are done if more is to do -/
theorem zturn {r h d : Nat} (hsh : zsh r h d) {O : zMe} {ρ q i : Nat} {σ τ : zFo} (hw : zwf r h d O σ) (hρ : ρ < h) (hq : q < d) (hs : zsml r σ.2.1 q (h - ρ) ρ none 0 = some i) (hz : zclrs r h d false ρ q (h - (ρ + 1)) (ρ + 1) (zswp r h d 0 ρ i σ) = some τ) :
    ∃ σ1, zswp r h d 0 ρ i σ = some σ1 ∧ zwf r h d O σ1 ∧ zlg false σ1.2.1 ρ q ≠ (0, 0) ∧ zwf r h d O τ ∧ zlg false τ.2.1 ρ q ≠ (0, 0) ∧ σ.1 ≤ τ.1 ∧ (zicl false τ.2.1 q (ρ + 1) h = false → σ.1 < τ.1) := by
  rcases (zsml_p hsh.1 hw.2.1 q _ _ _ _).1 i hs with h1 | ⟨i1, i2, i3⟩
  · cases h1
  · cases hz1 : zswp r h d 0 ρ i σ with
    | none => rw [hz1, zclrs_none] at hz; cases hz
    | some σ1 =>
      rw [hz1] at hz
      obtain ⟨w1, w2, w3, _⟩ := zswp_w hsh.1 false hw (show i < h by omega) hρ hz1
      have hp : zlg false σ1.2.1 ρ q ≠ (0, 0) := by rw [w2 q hq]; exact i3
      obtain ⟨v1, v2, v3, v4⟩ := zclrs_w hsh.1 (c := false) hρ (h - (ρ + 1)) (ρ + 1) σ1 τ (show ρ + 1 + (h - (ρ + 1)) ≤ h by omega) (Or.inl (by omega)) w1 hp hz
      refine ⟨σ1, rfl, w1, hp, v1, by rw [v2 ρ q (Or.inl (by omega))]; exact hp, by omega, fun hcl => ?_⟩
      rcases v4 (by omega) with h2 | ⟨rfl, h2⟩
      · omega
      · exfalso
        have : zicl false τ.2.1 q (ρ + 1) h = true := zicl_iff.mpr (fun k hk1 hk2 => h2 k hk2 (by omega))
        rw [this] at hcl
        cases hcl
theorem l187 {K : zKt} {code pr pn : Int32} {J : zJt} {vf vs : Nat → Int32} {B : zBt} {w : Nat → Int64} {p : Nat × Nat} {Q : zR → zH → Prop} {β r h d ρ q : Nat} {O : zMe} {m0 : Nat → Int32} {oF : Option zFo} (hsh : zsh r h d) (hB : β + 1068 ≤ 5340) (hρ : ρ < h) (hq : q < d)
    (H : ∀ rf' rs' pa' pb' pc' m' bad', zfr β m0 m' → zGB bad' m' β r h d O oF → Q (.inl none) (zh K (code, rf', rs', bad', pr, pn, J) (m', pa', pb', pc', vf, vs, B) w)) :
    ∀ (n : Nat) (rf rs : Int32) (pa pb pc m : Nat → Int32) (σ : zFo), 201 ≤ n + σ.1 → zfr β m0 m → zGB false m β r h d O (some σ) → (∃ k, ρ ≤ k ∧ k < h ∧ σ.2.1 k q ≠ (0, 0)) → zclrs r h d false ρ q ρ 0 ((zpvl r h d ρ q n σ).bind (znz r h d ρ q)) = oF →
    zW zm_187 3 [some (.ref 75), some (.int (Int32.ofNat β)), some (.int (Int32.ofNat ρ)), some (.int (Int32.ofNat q)), some (.int (Int32.ofNat 1)), none, none] [] p (zh K (code, rf, rs, false, pr, pn, J) (m, pa, pb, pc, vf, vs, B) w) Q := by
  have h4 := hsh.2.2.1
  have h5 := hsh.2.2.2.2
  intro n
  induction n with
  | zero => intro rf rs pa pb pc m σ hn hf hg; have := hg.2.2.1; omega
  | succ n ih =>
    intro rf rs pa pb pc m σ hn hf hg hk he
    have hg' := hg
    obtain ⟨_, hb, hw⟩ := hg'
    cases hs : zsml r σ.2.1 q (h - ρ) ρ none 0 with
    | none =>
      obtain ⟨k, k1, k2, k3⟩ := hk
      exact absurd (((zsml_p hsh.1 hw.2.1 q _ _ _ _).2 hs).2 k k1 (by omega)) k3
    | some i =>
      rcases (zsml_p hsh.1 hw.2.1 q _ _ _ _).1 i hs with h1 | ⟨i1, i2, i3⟩
      · cases h1
      · refine b187_3 ⟨by omega, fun h => absurd h (by decide), fun _ => ⟨fun h => (by cases h), fun _ => s188 hsh hB hb.1 hb.2.2.1 hw.2.1 (by omega) (by omega) (fun pa1 => ?_)⟩⟩
        rw [hs]
        have cl : ∀ rf' rs' pa' pb' pc' m' bad', zfr β m0 m' → zGB bad' m' β r h d O (zswp r h d 0 ρ i σ) → zW zm_187 46 [some (.ref 75), some (.int (Int32.ofNat β)), some (.int (Int32.ofNat ρ)), some (.int (Int32.ofNat q)), none, none, some (.int (Int32.ofNat (ρ + 1)))] [] p (zh K (code, rf', rs', bad', pr, pn, J) (m', pa', pb', pc', vf, vs, B) w) Q := by
          intro rf' rs' pa' pb' pc' m' bad' f1 f2
          refine l187c (oF := zclrs r h d false ρ q (h - (ρ + 1)) (ρ + 1) (zswp r h d 0 ρ i σ)) hsh hB hρ hq (fun rf2 rs2 pa2 pb2 pc2 m2 bad2 g1 g2 => ?_) (h - (ρ + 1)) (ρ + 1) rf' rs' pa' pb' pc' m' bad' _ (by omega) (by omega) f1 f2 (fun σ1 e1 => ?_) rfl
          · refine s185 (c := false) hsh hB (zGB_h g2) (by omega) (show ρ + 1 ≤ h by omega) (fun b hb2 => ?_)
            cases hz : zclrs r h d false ρ q (h - (ρ + 1)) (ρ + 1) (zswp r h d 0 ρ i σ) with
            | none =>
              rw [hz] at g2
              have g2' := g2
              obtain ⟨rfl, hh⟩ := g2'
              rw [zpvl_n hs hz, Option.bind_none, zclrs_none] at he
              subst he
              refine b187_85 ⟨fun _ => ?_, fun _ => ?_⟩
              · exact b187_3 ⟨by omega, fun _ => ⟨fun h => (by cases h), fun _ => H rf2 rs2 pa2 pb2 pc2 m2 true g1 g2⟩, fun h => absurd rfl h⟩
              · exact b187_3 ⟨by omega, fun h => absurd h (by decide), fun _ => ⟨fun _ => ⟨fun h => (by cases h), fun _ => H rf2 rs2 pa2 pb2 pc2 m2 true g1 g2⟩, fun h => (by cases h)⟩⟩
            | some τ =>
              rw [hz] at g2
              have g2' := g2
              obtain ⟨rfl, hb3, hw3⟩ := g2'
              obtain ⟨σ1, t1, t2, t3, t4, t5, t6, t7⟩ := zturn hsh hw hρ hq hs hz
              have hbv : b = zicl false τ.2.1 q (ρ + 1) h := hb2 _ hb3.2.2.1
              rw [zpvl_s hs hz] at he
              refine b187_85 ⟨fun hbt => ?_, fun hbf => ?_⟩
              · rw [hbt] at hbv
                rw [if_pos hbv.symm, Option.bind_some] at he
                refine b187_3 ⟨by omega, fun _ => ⟨fun _ => ?_, fun h => (by cases h)⟩, fun h => absurd rfl h⟩
                refine s197 hsh hB g2 hρ hq t5 (fun rf3 rs3 pa3 pb3 pc3 m3 bad3 k1 k2 => b187_113 ?_)
                refine l187r hsh hB hρ hq H ρ 0 rf3 rs3 pa3 pb3 pc3 m3 bad3 _ (by omega) (zfr_t g1 k1) k2 (fun τ2 e2 => ?_) he
                exact (znz_w hsh.1 t4 hρ hq t5 e2).2.1
              · rw [hbf] at hbv
                rw [if_neg (by rw [show zicl false τ.2.1 q (ρ + 1) h = false from hbv.symm]; decide)] at he
                refine ih rf2 rs2 pa2 pb2 pc2 m2 τ ?_ g1 g2 ⟨ρ, Nat.le_refl _, hρ, t5⟩ he
                have := t7 hbv.symm
                omega
          · obtain ⟨_, w2, _⟩ := zswp_w hsh.1 false hw (show i < h by omega) hρ e1
            rw [w2 q hq]
            exact i3
        refine b187_22 ⟨fun h => ?_, fun hn2 => ?_⟩
        · have : i = ρ := zN_inj (by omega) (by omega) h
          refine cl _ _ _ _ _ m false hf ?_
          unfold zswp
          rw [if_pos this]
          exact hg
        · have hne : i ≠ ρ := fun h => hn2 (by rw [h]; rfl)
          refine s174g (s := (0, ρ, i, (0, 0))) hsh hB hg (fun _ => zswp_sv hsh.1 false (show i < h by omega) hρ hne) (fun _ => rfl) (fun rf' rs' pa' pb' pc' m' bad' f1 f2 => b187_41 (cl _ _ _ _ _ m' bad' (zfr_t hf f1) ?_))
          unfold zswp
          rw [if_neg hne]
          exact f2
/-- pivots -/
theorem s187 {K : zKt} {code rf rs pr pn : Int32} {bad : Bool} {J : zJt} {m pa pb pc vf vs : Nat → Int32} {B : zBt} {w : Nat → Int64} {p : Nat × Nat} {Q : zR → zH → Prop} {β r h d ρ q : Nat} {O : zMe} {σ : zFo} (hsh : zsh r h d) (hB : β + 1068 ≤ 5340) (hρ : ρ < h) (hq : q < d) (hg : zGB bad m β r h d O (some σ)) (hk : ∃ k, ρ ≤ k ∧ k < h ∧ σ.2.1 k q ≠ (0, 0))
    (H : ∀ rf' rs' pa' pb' pc' m' bad', zfr β m m' → zGB bad' m' β r h d O (zpvt r h d ρ q σ) → Q (.inl none) (zh K (code, rf', rs', bad', pr, pn, J) (m', pa', pb', pc', vf, vs, B) w)) :
    zT zm_187 [.ref 75, .int (Int32.ofNat β), .int (Int32.ofNat ρ), .int (Int32.ofNat q)] p (zh K (code, rf, rs, bad, pr, pn, J) (m, pa, pb, pc, vf, vs, B) w) Q := by
  have hg' := hg
  obtain ⟨rfl, _, _⟩ := hg'
  exact b187 (l187 (m0 := m) hsh hB hρ hq H 201 rf rs pa pb pc m σ (by omega) zfr_r hg hk rfl)
theorem l184b {K : zKt} {code rf rs pr pn : Int32} {J : zJt} {m pa pb pc vf vs : Nat → Int32} {B : zBt} {w : Nat → Int64} {p : Nat × Nat} {Q : zR → zH → Prop} {β r h d : Nat} (hB : β + 1068 ≤ 5340) {x y : Nat} (H : ∀ rv, Q (.inl (some (.int rv))) (zh K (code, rf, rs, true, pr, pn, J) (m, pa, pb, pc, vf, vs, B) w)) : zW zm_184 4 [some (.ref 75), some (.int (Int32.ofNat β)), some (.int (Int32.ofNat x)), some (.int (Int32.ofNat y))] [] p (zh K (code, rf, rs, true, pr, pn, J) (m, pa, pb, pc, vf, vs, B) w) Q :=
  b184_4 ⟨by omega, fun _ => H _, fun _ => ⟨by omega, fun _ => H _, fun _ => ⟨fun _ => H _, fun h => (by cases h)⟩⟩⟩
/-- what follows from a pivot's end -/
theorem zpvt_w {r h d : Nat} (hsh : zsh r h d) {O : zMe} {ρ q : Nat} (hρ : ρ < h) (hq : q < d) {σ τ : zFo} (hw : zwf r h d O σ) (e : zpvt r h d ρ q σ = some τ) : zwf r h d O τ := by
  have l : ∀ (n : Nat) (σ υ : zFo), zwf r h d O σ → zpvl r h d ρ q n σ = some υ → zwf r h d O υ ∧ υ.2.1 ρ q ≠ (0, 0) := by
    intro n
    induction n with
    | zero => intro σ υ _ e; cases e
    | succ n ih =>
      intro σ υ hw e
      cases hs : zsml r σ.2.1 q (h - ρ) ρ none 0 with
      | none => simp only [zpvl, hs] at e; cases e
      | some i =>
        cases hz : zclrs r h d false ρ q (h - (ρ + 1)) (ρ + 1) (zswp r h d 0 ρ i σ) with
        | none => rw [zpvl_n hs hz] at e; cases e
        | some τ =>
          rw [zpvl_s hs hz] at e
          obtain ⟨σ1, t1, t2, t3, t4, t5, t6, t7⟩ := zturn hsh hw hρ hq hs hz
          split at e
          · cases e; exact ⟨t4, t5⟩
          · exact ih τ υ t4 e
  unfold zpvt at e
  cases h1 : zpvl r h d ρ q 201 σ with
  | none => rw [h1, Option.bind_none, zclrs_none] at e; cases e
  | some υ =>
    rw [h1, Option.bind_some] at e
    obtain ⟨l1, l2⟩ := l 201 σ υ hw h1
    cases h2 : znz r h d ρ q υ with
    | none => rw [h2, zclrs_none] at e; cases e
    | some ω =>
      rw [h2] at e
      obtain ⟨n1, n2, _, _⟩ := znz_w hsh.1 l1 hρ hq l2 h2
      exact (zclrs_w hsh.1 (c := false) hρ ρ 0 ω τ (show 0 + ρ ≤ h by omega) (Or.inr (by omega)) n1 n2 e).1
theorem l184 {K : zKt} {code pr pn : Int32} {J : zJt} {vf vs : Nat → Int32} {B : zBt} {w : Nat → Int64} {p : Nat × Nat} {Q : zR → zH → Prop} {β r h d : Nat} {O : zMe} {m0 : Nat → Int32} {oF : Option (Nat × zFo)} (hsh : zsh r h d) (hB : β + 1068 ≤ 5340)
    (H1 : ∀ ρ τ, oF = some (ρ, τ) → ∀ rf' rs' pa' pb' pc' m', zfr β m0 m' → zGB false m' β r h d O (some τ) → Q (.inl (some (.int (Int32.ofNat ρ)))) (zh K (code, rf', rs', false, pr, pn, J) (m', pa', pb', pc', vf, vs, B) w))
    (H2 : oF = none → ∀ rv rf' rs' pa' pb' pc' m', zfr β m0 m' → zRh m' β r h d → Q (.inl (some (.int rv))) (zh K (code, rf', rs', true, pr, pn, J) (m', pa', pb', pc', vf, vs, B) w)) :
    ∀ (y q ρ : Nat) (rf rs : Int32) (pa pb pc m : Nat → Int32) (σ : zFo), q + y = d → ρ ≤ h → zfr β m0 m → zGB false m β r h d O (some σ) → zhrm r h d y q ρ σ = oF →
    zW zm_184 4 [some (.ref 75), some (.int (Int32.ofNat β)), some (.int (Int32.ofNat ρ)), some (.int (Int32.ofNat q))] [] p (zh K (code, rf, rs, false, pr, pn, J) (m, pa, pb, pc, vf, vs, B) w) Q := by
  have h4 := hsh.2.2.1
  have h5 := hsh.2.2.2.2
  intro y
  induction y with
  | zero =>
    intro q ρ rf rs pa pb pc m σ hq hρ hf hg he
    have hh := zGB_h hg
    exact b184_4 ⟨by omega, fun _ => H1 ρ σ he.symm rf rs pa pb pc m hf hg, fun hn => absurd (by rw [hh.2.2]; exact (zN_leI (by omega) (by omega)).mpr (by omega)) hn⟩
  | succ y ih =>
    intro q ρ rf rs pa pb pc m σ hq hρ hf hg he
    have hh := zGB_h hg
    simp only [zhrm] at he
    refine b184_4 ⟨by omega, fun hn => absurd hn (by rw [hh.2.2, zN_leI (by omega) (by omega)]; omega), fun _ => ⟨by omega, fun hle => ?_, fun hnle => ⟨fun h => (by cases h), fun _ => ?_⟩⟩⟩
    · rw [hh.2.1, zN_leI (by omega) (by omega)] at hle
      rw [if_pos hle] at he
      exact H1 ρ σ he.symm rf rs pa pb pc m hf hg
    · rw [hh.2.1, zN_leI (by omega) (by omega)] at hnle
      rw [if_neg hnle] at he
      refine s185 (c := false) hsh hB hh (by omega) (show ρ ≤ h by omega) (fun b hb2 => ?_)
      have hbv : b = zicl false σ.2.1 q ρ h := hb2 _ hg.2.1.2.2.1
      refine b184_43 ⟨fun hbt => ?_, fun hbf => ?_⟩
      · rw [hbt] at hbv
        rw [if_pos hbv.symm] at he
        exact ih (q + 1) ρ rf rs pa pb pc m σ (by omega) hρ hf hg he
      · rw [hbf] at hbv
        rw [if_neg (by rw [show zicl false σ.2.1 q ρ h = false from hbv.symm]; decide)] at he
        have hk : ∃ k, ρ ≤ k ∧ k < h ∧ σ.2.1 k q ≠ (0, 0) := by
          refine Classical.byContradiction (fun hno => ?_)
          have : zicl false σ.2.1 q ρ h = true := zicl_iff.mpr (fun k hk1 hk2 => Classical.byContradiction (fun hne => hno ⟨k, hk2, hk1, hne⟩))
          rw [show zicl false σ.2.1 q ρ h = false from hbv.symm] at this
          cases this
        refine s187 hsh hB (by omega) (by omega) hg hk (fun rf' rs' pa' pb' pc' m' bad' f1 f2 => b184_53 ?_)
        cases hz : zpvt r h d ρ q σ with
        | none =>
          rw [hz] at f2 he
          obtain ⟨rfl, hh2⟩ := f2
          exact l184b (r := r) (h := h) (d := d) hB (fun rv => H2 he.symm rv rf' rs' pa' pb' pc' m' (zfr_t hf f1) hh2)
        | some τ =>
          rw [hz] at f2 he
          have f2' := f2
          obtain ⟨rfl, _, _⟩ := f2'
          exact ih (q + 1) (ρ + 1) rf' rs' pa' pb' pc' m' τ (by omega) (by omega) (zfr_t hf f1) f2 he
/-- hermiteOf -/
theorem s184 {K : zKt} {code rf rs pr pn : Int32} {bad : Bool} {J : zJt} {m pa pb pc vf vs : Nat → Int32} {B : zBt} {w : Nat → Int64} {p : Nat × Nat} {Q : zR → zH → Prop} {β r h d : Nat} {O : zMe} {σ : zFo} (hsh : zsh r h d) (hB : β + 1068 ≤ 5340) (hg : zGB bad m β r h d O (some σ))
    (H1 : ∀ ρ τ, zhrm r h d d 0 0 σ = some (ρ, τ) → ∀ rf' rs' pa' pb' pc' m', zfr β m m' → zGB false m' β r h d O (some τ) → Q (.inl (some (.int (Int32.ofNat ρ)))) (zh K (code, rf', rs', false, pr, pn, J) (m', pa', pb', pc', vf, vs, B) w))
    (H2 : zhrm r h d d 0 0 σ = none → ∀ rv rf' rs' pa' pb' pc' m', zfr β m m' → zRh m' β r h d → Q (.inl (some (.int rv))) (zh K (code, rf', rs', true, pr, pn, J) (m', pa', pb', pc', vf, vs, B) w)) :
    zT zm_184 [.ref 75, .int (Int32.ofNat β)] p (zh K (code, rf, rs, bad, pr, pn, J) (m, pa, pb, pc, vf, vs, B) w) Q := by
  have hg' := hg
  obtain ⟨rfl, _, _⟩ := hg'
  exact b184 (l184 (m0 := m) hsh hB H1 H2 d 0 0 rf rs pa pb pc m σ (by omega) (by omega) zfr_r hg rfl)
