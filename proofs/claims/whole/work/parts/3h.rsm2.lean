/-! THE REFERENCE'S smithOf -/
theorem l200 {K : zKt} {code : Int32} {J : zJt} {vf vs : Nat → Int32} {B : zBt} {w : Nat → Int64} {p : Nat × Nat} {Q : zR → zH → Prop} {β r h d : Nat} {O : zMe} {m0 : Nat → Int32} {oF : Option (Nat × zFo)} (hsh : zsh r h d) (hB : β + 1068 ≤ 5340)
    (H1 : ∀ t τ, oF = some (t, τ) → ∀ rf' rs' pa' pb' pc' pr' pn' m', zfr β m0 m' → zGB false m' β r h d O (some τ) → Q (.inl (some (.int (Int32.ofNat t)))) (zh K (code, rf', rs', false, pr', pn', J) (m', pa', pb', pc', vf, vs, B) w))
    (H2 : oF = none → ∀ rv rf' rs' pa' pb' pc' pr' pn' m', zfr β m0 m' → zRh m' β r h d → Q (.inl (some (.int rv))) (zh K (code, rf', rs', true, pr', pn', J) (m', pa', pb', pc', vf, vs, B) w)) :
    ∀ (N n t : Nat) (rf rs pr pn : Int32) (pa pb pc m : Nat → Int32) (σ : zFo), n ≤ N → 205 ≤ n + σ.1 + t → t ≤ h → t ≤ d → zfr β m0 m → zGB false m β r h d O (some σ) → zsmt r h d n true t σ = oF →
    zW zm_200 2 [some (.ref 75), some (.int (Int32.ofNat β)), some (.int (Int32.ofNat t))] [] p (zh K (code, rf, rs, false, pr, pn, J) (m, pa, pb, pc, vf, vs, B) w) Q := by
  have h4 := hsh.2.2.1
  intro N
  induction N with
  | zero => intro n t rf rs pr pn pa pb pc m σ hN hn ht htd _ hg; have := hg.2.2.1; omega
  | succ N ih =>
    intro n t rf rs pr pn pa pb pc m σ hN hn ht htd hf hg he
    have hg' := hg
    obtain ⟨_, hb, hw⟩ := hg'
    refine b200_2 ⟨fun h => (by cases h), fun _ => s201 hsh hB hb.1 hb.2.2.1 hw.2.1 htd ht (fun pa1 pr1 pn1 hpp => b200_15 ⟨fun hrv => ?_, fun hrv => ?_⟩)⟩
    · have hfn : zfnd r h d σ.2.1 t = none := by
        cases hv : zfnd r h d σ.2.1 t with
        | none => rfl
        | some q => rw [hv] at hrv; cases hrv
      cases n with
      | zero => have := hw.1; omega
      | succ n =>
        simp only [zsmt, zsmB, hfn] at he
        exact H1 t σ he.symm _ _ _ _ _ _ _ m hf hg
    · have hfn : zfnd r h d σ.2.1 t ≠ none := by
        intro hv
        rw [hv] at hrv; cases hrv
      refine b202 (l202 (N := n) (m0 := m0) (oF := oF) hsh hB (fun n' υ hn' hm' he' ht' htd' rf' rs' pa' pb' pc' pr' pn' m' f1 f2 => b200_24 ?_) (fun he' rf' rs' pa' pb' pc' pr' pn' m' f1 f2 => b200_24 ?_) n true rf rs pr1 pn1 pa1 pb pc m σ (Nat.le_refl _) hn hf hg ⟨ht, htd, fun h => (by cases h)⟩ (fun _ => hfn) he)
      · exact ih n' (t + 1) rf' rs' pr' pn' pa' pb' pc' m' υ (by omega) hm' ht' htd' f1 f2 he'
      · exact b200_2 ⟨fun _ => H2 he' _ rf' rs' pa' pb' pc' pr' pn' m' f1 f2, fun h => (by cases h)⟩
/-- smithOf -/
theorem s200 {K : zKt} {code rf rs pr pn : Int32} {bad : Bool} {J : zJt} {m pa pb pc vf vs : Nat → Int32} {B : zBt} {w : Nat → Int64} {p : Nat × Nat} {Q : zR → zH → Prop} {β r h d : Nat} {O : zMe} {σ : zFo} (hsh : zsh r h d) (hB : β + 1068 ≤ 5340) (hg : zGB bad m β r h d O (some σ))
    (H1 : ∀ t τ, zsmt r h d 205 true 0 σ = some (t, τ) → ∀ rf' rs' pa' pb' pc' pr' pn' m', zfr β m m' → zGB false m' β r h d O (some τ) → Q (.inl (some (.int (Int32.ofNat t)))) (zh K (code, rf', rs', false, pr', pn', J) (m', pa', pb', pc', vf, vs, B) w))
    (H2 : zsmt r h d 205 true 0 σ = none → ∀ rv rf' rs' pa' pb' pc' pr' pn' m', zfr β m m' → zRh m' β r h d → Q (.inl (some (.int rv))) (zh K (code, rf', rs', true, pr', pn', J) (m', pa', pb', pc', vf, vs, B) w)) :
    zT zm_200 [.ref 75, .int (Int32.ofNat β)] p (zh K (code, rf, rs, bad, pr, pn, J) (m, pa, pb, pc, vf, vs, B) w) Q := by
  have hg' := hg
  obtain ⟨rfl, _, _⟩ := hg'
  exact b200 (l200 (m0 := m) hsh hB H1 H2 205 205 0 rf rs pr pn pa pb pc m σ (Nat.le_refl _) (by omega) (by omega) (by omega) zfr_r hg rfl)
