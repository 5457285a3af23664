/-! what isn't read needn't be known -/
def zle (L' L : zL) : Prop := L'.length = L.length ∧ ∀ (i : Nat) (v : Value), L'[i]? = some (some v) → L[i]? = some (some v)
theorem zle_rfl {L : zL} : zle L L := ⟨rfl, fun _ _ h => h⟩
theorem zle_nil : zle [] [] := zle_rfl
theorem zle_s {L' L : zL} (x : Option Value) (h : zle L' L) : zle (x :: L') (x :: L) := by
  refine ⟨by rw [List.length_cons, List.length_cons, h.1], fun i v hv => ?_⟩
  cases i with
  | zero => exact hv
  | succ i => exact h.2 i v hv
theorem zle_n {L' L : zL} (x : Option Value) (h : zle L' L) : zle (none :: L') (x :: L) := by
  refine ⟨by rw [List.length_cons, List.length_cons, h.1], fun i v hv => ?_⟩
  cases i with
  | zero => cases hv
  | succ i => exact h.2 i v hv
theorem zle_set {L' L : zL} (h : zle L' L) (k : Nat) (x : Option Value) : zle (L'.set k x) (L.set k x) := by
  refine ⟨by simp [h.1], fun i v hv => ?_⟩
  by_cases hik : k = i
  · subst hik
    have hl : k < L'.length := by simpa using (List.getElem?_eq_some_iff.mp hv).1
    rw [List.getElem?_set_self hl] at hv
    rw [List.getElem?_set_self (h.1 ▸ hl)]
    exact hv
  · rw [List.getElem?_set_ne hik] at hv ⊢
    exact h.2 i v hv
theorem zle_kl {L' L : zL} (h : zle L' L) (k : Nat) : zle (zkl L' k) (zkl L k) := by
  refine ⟨by rw [zkl_len, zkl_len, h.1], fun i v hv => ?_⟩
  obtain ⟨h1, h2⟩ := zkl_get hv
  have h3 := h.2 i v h1
  unfold zkl
  split
  · exact h3
  · rename_i j
    split
    · rename_i w hw
      cases hc : Nat.beq w.category 2 with
      | false => exact h3
      | true =>
        simp only [cond_true]
        by_cases hij : j = i
        · subst hij
          rw [h3] at hw
          cases hw
          exact absurd (Nat.eq_of_beq_eq_true hc) (h2 rfl)
        · rw [List.getElem?_set_ne hij]; exact h3
    · exact h3
theorem zlcl_fg {i : Instr} {L' L : zL} {st : List Value} (h : zle L' L) {q : Nat × zL × List Value} (hz : zlcl i L' st = some q) : ∃ L2, zlcl i L st = some (q.1, L2, q.2.2) ∧ zle q.2.1 L2 := by
  have a1 : ∀ {k d : Nat} {q : Nat × zL × List Value}, zldi L' k d st = some q → ∃ L2, zldi L k d st = some (q.1, L2, q.2.2) ∧ zle q.2.1 L2 := by
    intro k d q hz
    unfold zldi at hz
    split at hz
    · rename_i x hx; cases hz; exact ⟨L, by simp only [zldi, h.2 _ _ hx], h⟩
    · cases hz
  have a2 : ∀ {k d : Nat} {q : Nat × zL × List Value}, zldl L' k d st = some q → ∃ L2, zldl L k d st = some (q.1, L2, q.2.2) ∧ zle q.2.1 L2 := by
    intro k d q hz
    unfold zldl at hz
    split at hz
    · rename_i x hx; cases hz; exact ⟨L, by simp only [zldl, h.2 _ _ hx], h⟩
    · cases hz
  have a3 : ∀ {k d : Nat} {q : Nat × zL × List Value}, zlda L' k d st = some q → ∃ L2, zlda L k d st = some (q.1, L2, q.2.2) ∧ zle q.2.1 L2 := by
    intro k d q hz
    unfold zlda at hz
    split at hz
    · rename_i x hx; cases hz; exact ⟨L, by simp only [zlda, h.2 _ _ hx], h⟩
    · rename_i x hx; cases hz; exact ⟨L, by simp only [zlda, h.2 _ _ hx], h⟩
    · cases hz
  have a4 : ∀ {k d : Nat} {q : Nat × zL × List Value}, zsti L' k d st = some q → ∃ L2, zsti L k d st = some (q.1, L2, q.2.2) ∧ zle q.2.1 L2 := by
    intro k d q hz
    unfold zsti at hz
    split at hz
    · obtain ⟨hb, hz⟩ := zbifO hz
      cases hz
      exact ⟨_, by simp only [zsti, ← h.1, hb, cond_true]; rfl, zle_set (zle_kl h k) k _⟩
    · cases hz
  have a5 : ∀ {k d : Nat} {q : Nat × zL × List Value}, zstl L' k d st = some q → ∃ L2, zstl L k d st = some (q.1, L2, q.2.2) ∧ zle q.2.1 L2 := by
    intro k d q hz
    unfold zstl at hz
    split at hz
    · obtain ⟨hb, hz⟩ := zbifO hz
      cases hz
      exact ⟨_, by simp only [zstl, ← h.1, hb, cond_true]; rfl, zle_set (zle_set (zle_kl h k) k _) _ _⟩
    · cases hz
  have a6 : ∀ {k d : Nat} {q : Nat × zL × List Value}, zsta L' k d st = some q → ∃ L2, zsta L k d st = some (q.1, L2, q.2.2) ∧ zle q.2.1 L2 := by
    intro k d q hz
    unfold zsta at hz
    split at hz
    · obtain ⟨hb, hz⟩ := zbifO hz
      cases hz
      exact ⟨_, by simp only [zsta, ← h.1, hb, cond_true]; rfl, zle_set (zle_kl h k) k _⟩
    · cases hz
  unfold zlcl at hz
  split at hz
  · exact a1 hz
  · exact a1 hz
  · exact a2 hz
  · exact a2 hz
  · exact a3 hz
  · exact a3 hz
  · exact a4 hz
  · exact a4 hz
  · exact a5 hz
  · exact a5 hz
  · exact a6 hz
  · exact a6 hz
  · rename_i k c
    unfold zinc at hz
    split at hz
    · rename_i x hx
      cases hz
      exact ⟨_, by simp only [zlcl, zinc, h.2 _ _ hx]; rfl, zle_set (zle_kl h k) k _⟩
    · cases hz
  · cases hz
theorem zlcl_only {sc : Option (Nat × (Nat → Int32))} {al : Bool} {M : zM} {pc : Nat} {i : Instr} {L : zL} {st : List Value} {g : zG} {h : zH} {q : Nat × zL × List Value} (hz : zlcl i L st = some q) :
    zbr i pc st = none ∧ zrd sc M.1 i st g h = none ∧ zwr al M i st g h = none ∧ zret M i st = none ∧ zcal M.1 i st g h = none ∧ znew M.1 i st g h = none ∧ zthr M pc i st = none := by
  unfold zlcl at hz
  split at hz
  all_goals first | (cases hz; done) | exact ⟨rfl, rfl, rfl, rfl, rfl, rfl, by simp [zthr]⟩
theorem zstep_fg {sc : Option (Nat × (Nat → Int32))} {al : Bool} {M : zM} {pc : Nat} {i : Instr} {L' L : zL} {st : List Value} {g : zG} {h : zH} {r : zS} (hle : zle L' L) (hz : zstep sc al M pc i L' st g h = some r) :
    (∃ q L2, r = .inl q ∧ zstep sc al M pc i L st g h = some (.inl (q.1, L2, q.2.2)) ∧ zle q.2.1 L2) ∨ (∃ q, r = .inr q ∧ zstep sc al M pc i L st g h = some (.inr q)) := by
  cases h1 : zstk i st with
  | some q =>
    simp only [zstep, h1] at hz ⊢
    cases hz
    exact Or.inl ⟨_, L, rfl, rfl, hle⟩
  | none =>
    cases h2 : zlcl i L' st with
    | some q =>
      obtain ⟨L2, h3, h4⟩ := zlcl_fg hle h2
      simp only [zstep, h1, h2, h3] at hz ⊢
      cases hz
      exact Or.inl ⟨_, L2, rfl, rfl, h4⟩
    | none =>
      cases h3 : zlcl i L st with
      | some q =>
        obtain ⟨b1, b2, b3, b4, b5, b6, b7⟩ := zlcl_only (sc := sc) (al := al) (M := M) (pc := pc) (g := g) (h := h) h3
        simp only [zstep, h1, h2, b1, b2, b3, b4, b5, b6, b7] at hz
        cases al <;> cases hz
      | none =>
        simp only [zstep, h1, h2, h3] at hz ⊢
        cases h4 : zbr i pc st with
        | some q => simp only [h4] at hz ⊢; cases hz; exact Or.inr ⟨_, rfl, rfl⟩
        | none =>
          simp only [h4] at hz ⊢
          cases h5 : zrd sc M.1 i st g h with
          | some q => simp only [h5] at hz ⊢; cases hz; exact Or.inl ⟨_, L, rfl, rfl, hle⟩
          | none =>
            simp only [h5] at hz ⊢
            cases h6 : zwr al M i st g h with
            | some q => simp only [h6] at hz ⊢; cases hz; exact Or.inl ⟨_, L, rfl, rfl, hle⟩
            | none =>
              simp only [h6] at hz ⊢
              cases h7 : zret M i st with
              | some q => simp only [h7] at hz ⊢; cases hz; exact Or.inr ⟨_, rfl, rfl⟩
              | none =>
                simp only [h7] at hz ⊢
                cases h8 : zcal M.1 i st g h with
                | some q => simp only [h8] at hz ⊢; cases hz; exact Or.inr ⟨_, rfl, rfl⟩
                | none =>
                  simp only [h8] at hz ⊢
                  cases al with
                  | true =>
                    dsimp only at hz ⊢
                    cases h9 : znew M.1 i st g h with
                    | some q => simp only [h9] at hz ⊢; cases hz; exact Or.inl ⟨_, L, rfl, rfl, hle⟩
                    | none => simp only [h9] at hz; cases hz
                  | false =>
                    dsimp only at hz ⊢
                    cases h9 : zthr M pc i st with
                    | some q => simp only [h9] at hz ⊢; cases hz; exact Or.inr ⟨_, rfl, rfl⟩
                    | none => simp only [h9] at hz; cases hz
theorem zrun_fg {f : Nat} : ∀ {sc : Option (Nat × (Nat → Int32))} {al : Bool} {M : zM} {pc : Nat} {L' L : zL} {st : List Value} {g : zG} {h : zH} {o : zO}, zle L' L → zrun f sc al M pc L' st g h = some o → zrun f sc al M pc L st g h = some o := by
  induction f with
  | zero => intro sc al M pc L' L st g h o _ hz; cases hz
  | succ f ih =>
    intro sc al M pc L' L st g h o hle hz
    obtain ⟨i, hi, h9⟩ := zrun_inv hz
    rcases h9 with ⟨q, hs, hr⟩ | ⟨q, hs, hr⟩ | hs | ⟨q, M', o1, hs, hM, c1, c2, c3, hr1, h9⟩
    · rcases zstep_fg hle hs with ⟨q2, L2, e1, e2, e3⟩ | ⟨q2, e1, e2⟩
      · cases e1
        simp only [zrun, hi, e2]
        exact ih e3 hr
      · cases e1
    · rcases zstep_fg hle hs with ⟨q2, L2, e1, e2, e3⟩ | ⟨q2, e1, e2⟩
      · cases e1
      · cases e1
        simp only [zrun, hi, e2]
        rcases hr with ⟨hb, hr⟩ | ⟨hb, hr⟩
        · simp only [hb]; exact ih hle hr
        · simp only [hb]; exact ih hle hr
    · rcases zstep_fg hle hs with ⟨q2, L2, e1, e2, e3⟩ | ⟨q2, e1, e2⟩
      · cases e1
      · cases e1
        simp only [zrun, hi, e2]
    · rcases zstep_fg hle hs with ⟨q2, L2, e1, e2, e3⟩ | ⟨q2, e1, e2⟩
      · cases e1
      · cases e1
        have hb : (Nat.blt M'.2.1 M.2.1 && Nat.ble ((q.2.2.map fun v => v.category).sum) 8 && Nat.ble (zslt q.2.1).length M'.2.2.2.2.1) = true := by
          rw [zbltT c1, Nat.ble_eq_true_of_le c2, Nat.ble_eq_true_of_le c3]; rfl
        simp only [zrun, hi, e2, hM, hb, cond_true, hr1]
        rcases h9 with ⟨r, e1, hr⟩ | ⟨r, e1, hh, e3⟩ | ⟨r, k, e1, hh, hk, hr⟩
        · subst e1; exact ih hle hr
        · subst e1 e3; simp only [hh]
        · subst e1
          dsimp only
          split
          · rename_i hh2; rw [hh2] at hh; cases hh
          · simp only [hh, ← hle.1, zbltT hk, cond_true]
            exact ih (zle_set (zle_kl hle _) _ _) hr
section ZF2
variable {M : zM} {pc : Nat} {L L' : zL} {st : List Value} {p : Nat × Nat} {h : zH} {Q : zR → zH → Prop}
theorem zW_fg (hle : zle L' L) (w : zW M pc L' st p h Q) : zW M pc L st p h Q := by
  obtain ⟨f, r, h', e, q⟩ := w
  exact ⟨f, r, h', zrun_fg hle e, q⟩
end ZF2
