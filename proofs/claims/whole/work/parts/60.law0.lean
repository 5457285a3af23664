/-! RUNS OF THE LAW: they end with an answer; an exception that is caught makes a cell -/
def zV (sc : Option (Nat × (Nat → Int32))) (M : zM) (pc : Nat) (L : zL) (st : List Value) (p : Nat × Nat) (h : zH) (Q : Option Value → Nat × Nat → zH → Prop) : Prop :=
  ∃ (f : Nat) (v : Option Value) (p' : Nat × Nat) (h' : zH), zrun f sc false M pc L st (86, p) h = some (.inl (v, (86, p'), h')) ∧ Q v p' h'
section ZV
variable {sc : Option (Nat × (Nat → Int32))} {M M' : zM} {pc : Nat} {L : zL} {st t : List Value} {p : Nat × Nat} {h : zH} {Q : Option Value → Nat × Nat → zH → Prop}
theorem zV_go (pc' : Nat) (L' : zL) (st' : List Value) (k : Nat) (e : ∀ f, zrun (f + k) sc false M pc L st (86, p) h = zrun f sc false M pc' L' st' (86, p) h) (w : zV sc M pc' L' st' p h Q) : zV sc M pc L st p h Q := by
  obtain ⟨f, v, p', h', e', q⟩ := w
  exact ⟨f + k, v, p', h', (e f).trans e', q⟩
theorem zV_fg {L' : zL} (hle : zle L' L) (w : zV sc M pc L' st p h Q) : zV sc M pc L st p h Q := by
  obtain ⟨f, v, p', h', e', q⟩ := w
  exact ⟨f, v, p', h', zrun_fg hle e', q⟩
theorem zV_ret (v : Option Value) (k : Nat) (e : ∀ f, zrun (f + k) sc false M pc L st (86, p) h = some (.inl (v, (86, p), h))) (q : Q v p h) : zV sc M pc L st p h Q := ⟨0 + k, v, p, h, e 0, q⟩
theorem zV_br (b : Bool) (pc' pf : Nat) (L' : zL) (st' : List Value) (k : Nat) (e : ∀ f, zrun (f + k) sc false M pc L st (86, p) h = match b with
    | true => zrun f sc false M pc' L' st' (86, p) h
    | false => zrun f sc false M pf L' st' (86, p) h) (wt : b = true → zV sc M pc' L' st' p h Q) (wf : b = false → zV sc M pf L' st' p h Q) : zV sc M pc L st p h Q := by
  cases hb : b with
  | true =>
    obtain ⟨f, v, p', h', e', q⟩ := wt hb
    exact ⟨f + k, v, p', h', by rw [e f, hb]; exact e', q⟩
  | false =>
    obtain ⟨f, v, p', h', e', q⟩ := wf hb
    exact ⟨f + k, v, p', h', by rw [e f, hb]; exact e', q⟩
theorem zV_s {i : Instr} {pc' : Nat} {L' : zL} {st' : List Value} {h2 : zH} (hi : zlk M.2.2.2.2.2.2.1 pc = some i) (hs : zstep sc false M pc i L st (86, p) h = some (.inl (pc', L', st', (86, p), h2))) (w : zV sc M pc' L' st' p h2 Q) : zV sc M pc L st p h Q := by
  obtain ⟨f, v, p', h', e', q⟩ := w
  refine ⟨f + 1, v, p', h', ?_, q⟩
  simp only [zrun, hi, hs]
  exact e'
/-- a call that answers -/
theorem zV_cl {i : Instr} {mi : Nat} {as : List Value} (hi : zlk M.2.2.2.2.2.2.1 pc = some i) (hs : zstep sc false M pc i L st (86, p) h = some (.inr (.inr (.inr (mi, as, t))))) (hM : zpr mi = some M')
    (hb : (Nat.blt M'.2.1 M.2.1 && Nat.ble ((t.map fun v => v.category).sum) 8 && Nat.ble (zslt as).length M'.2.2.2.2.1) = true) (w : zT M' as p h (fun r h' => ∃ v, r = .inl v ∧ zV sc M (pc + 3) L (v.toList ++ t) p h' Q)) : zV sc M pc L st p h Q := by
  obtain ⟨f, r, h1, e, v, rfl, f2, v2, p2, h3, e2, q2⟩ := w
  refine ⟨(f + f2) + 1, v2, p2, h3, ?_, q2⟩
  have e3 : zrun (f + f2) sc false M (pc + 3) L (v.toList ++ t) (86, p) h1 = some (.inl (v2, (86, p2), h3)) := by rw [Nat.add_comm]; exact zrun_add f e2
  simp only [zrun, hi, hs, hM, hb, cond_true, zrun_add f2 e, zot]
  exact e3
/-- a call that answers, with cells made -/
theorem zV_cw {i : Instr} {mi : Nat} {as : List Value} (hi : zlk M.2.2.2.2.2.2.1 pc = some i) (hs : zstep sc false M pc i L st (86, p) h = some (.inr (.inr (.inr (mi, as, t))))) (hM : zpr mi = some M')
    (hb : (Nat.blt M'.2.1 M.2.1 && Nat.ble ((t.map fun v => v.category).sum) 8 && Nat.ble (zslt as).length M'.2.2.2.2.1) = true) (w : zV none M' 0 (zent as M'.2.2.2.2.1) [] p h (fun v p' h' => zV sc M (pc + 3) L (v.toList ++ t) p' h' Q)) : zV sc M pc L st p h Q := by
  obtain ⟨f, v, p1, h1, e, f2, v2, p2, h3, e2, q2⟩ := w
  refine ⟨(f + f2) + 1, v2, p2, h3, ?_, q2⟩
  have e3 : zrun (f + f2) sc false M (pc + 3) L (v.toList ++ t) (86, p1) h1 = some (.inl (v2, (86, p2), h3)) := by rw [Nat.add_comm]; exact zrun_add f e2
  simp only [zrun, hi, hs, hM, hb, cond_true, zrun_add f2 e]
  exact e3
/-- a call whose exceptions are caught -/
theorem zV_ch {i : Instr} {mi : Nat} {as : List Value} {q0 : Nat × Nat × Nat × Nat} {H : List (Nat × Nat × Nat × Nat)} (hi : zlk M.2.2.2.2.2.2.1 pc = some i) (hs : zstep sc false M pc i L st (86, p) h = some (.inr (.inr (.inr (mi, as, t))))) (hM : zpr mi = some M')
    (hb : (Nat.blt M'.2.1 M.2.1 && Nat.ble ((t.map fun v => v.category).sum) 8 && Nat.ble (zslt as).length M'.2.2.2.2.1) = true) (hH : M.2.2.2.2.2.2.2 = q0 :: H)
    (w : zT M' as p h (fun r h' => (∃ v, r = .inl v ∧ zV sc M (pc + 3) L (v.toList ++ t) p h' Q) ∨ ∃ e k, r = .inr e ∧ zhan M pc e (q0 :: H) = some k ∧ Nat.blt k.2 L.length = true ∧ zV sc M k.1 (zst0 L k.2) [] (p.1 + 1, p.2 + 6) h' Q)) : zV sc M pc L st p h Q := by
  obtain ⟨f, r, h1, e, ⟨v, rfl, f2, v2, p2, h3, e2, q2⟩ | ⟨x, k, rfl, hk, hl, f2, v2, p2, h3, e2, q2⟩⟩ := w
  · refine ⟨(f + f2) + 1, v2, p2, h3, ?_, q2⟩
    have e3 : zrun (f + f2) sc false M (pc + 3) L (v.toList ++ t) (86, p) h1 = some (.inl (v2, (86, p2), h3)) := by rw [Nat.add_comm]; exact zrun_add f e2
    simp only [zrun, hi, hs, hM, hb, cond_true, zrun_add f2 e, zot]
    exact e3
  · refine ⟨(f + f2) + 1, v2, p2, h3, ?_, q2⟩
    have e3 : zrun (f + f2) sc false M k.1 (zst0 L k.2) [] (86, p.1 + 1, p.2 + 6) h1 = some (.inl (v2, (86, p2), h3)) := by rw [Nat.add_comm]; exact zrun_add f e2
    simp only [zrun, hi, hs, hM, hb, cond_true, zrun_add f2 e, zot, hH, hk, hl]
    exact e3
/-- the script is read -/
theorem zV_scr {n j x : Nat} {F : Nat → Int32} {k : Int32} (hi : zlk M.2.2.2.2.2.2.1 pc = some .iaload) (hk : k = Int32.ofNat j) (hj : j < n) (hn : n ≤ 3584) (w : zV (some (n, F)) M (pc + 1) L (.int (F j) :: t) p h Q) : zV (some (n, F)) M pc L (.int k :: .retAddr x :: t) p h Q := by
  subst hk
  refine zV_s hi ?_ w
  have e : zrd (some (n, F)) M.1 .iaload (.int (Int32.ofNat j) :: .retAddr x :: t) (86, p) h = some (1, .int (F j) :: t) := by
    simp only [zrd, zN_ib hj (show n ≤ 2147483648 by omega), zN_cl hj (show n ≤ 2147483648 by omega), cond_true]
  simp only [zstep, zstk, zlcl, zbr, e]
/-- x != 0 -/
theorem zV_bool {x : Int32} (h1 : zlk M.2.2.2.2.2.2.1 pc = some (.ifCond .eq 7)) (h2 : zlk M.2.2.2.2.2.2.1 (pc + 3) = some (.iconst 1)) (h3 : zlk M.2.2.2.2.2.2.1 (pc + 3 + 1) = some (.goto 4)) (h4 : zlk M.2.2.2.2.2.2.1 (pc + 7) = some (.iconst 0)) (w : zV sc M (pc + 8) L (.int (zbi (!decide (x = 0))) :: t) p h Q) : zV sc M pc L (.int x :: t) p h Q := by
  have t1 : ztgt pc 7 = some (pc + 7) := by
    unfold ztgt
    rw [show ((pc : Int) + 7) = Int.ofNat (pc + 7) from by simp]
  have t2 : ztgt (pc + 3 + 1) 4 = some (pc + 8) := by
    unfold ztgt
    rw [show (((pc + 3 + 1 : Nat) : Int) + 4) = Int.ofNat (pc + 8) from by simp; omega]
  obtain ⟨f, v, p', h', e', q⟩ := w
  have s1 : zstep sc false M pc (.ifCond .eq 7) L (.int x :: t) (86, p) h = some (.inr (.inl (zcmp .eq x 0, pc + 7, pc + 3, t))) := by
    simp only [zstep, zstk, zlcl, zbr, t1]
  by_cases hx : x = 0
  · refine ⟨f + 2, v, p', h', ?_, q⟩
    have c1 : zcmp .eq x 0 = true := decide_eq_true hx
    rw [c1] at s1
    rw [decide_eq_true hx] at e'
    have s2 : zstep sc false M (pc + 7) (.iconst 0) L t (86, p) h = some (.inl (pc + 8, L, .int (zbi (!true)) :: t, (86, p), h)) := rfl
    simp only [zrun, h1, s1, h4, s2]
    exact e'
  · refine ⟨f + 3, v, p', h', ?_, q⟩
    have c1 : zcmp .eq x 0 = false := decide_eq_false hx
    rw [c1] at s1
    rw [decide_eq_false hx] at e'
    have s2 : zstep sc false M (pc + 3) (.iconst 1) L t (86, p) h = some (.inl (pc + 3 + 1, L, .int (zbi (!false)) :: t, (86, p), h)) := rfl
    have s3 : zstep sc false M (pc + 3 + 1) (.goto 4) L (.int (zbi (!false)) :: t) (86, p) h = some (.inr (.inl (true, pc + 8, pc + 8, .int (zbi (!false)) :: t))) := by
      simp only [zstep, zstk, zlcl, zbr, t2]
    simp only [zrun, h1, s1, h2, s2, h3, s3]
    exact e'
theorem zV_last {a : Nat} {k : Int32} {x : Int64} {n j : Nat} {F : Nat → Int64} {h2 : zH} (hi : zlk M.2.2.2.2.2.2.1 pc = some .lastore) (ha : a < 86) (hc : h a = .inl (1, n, .inr (.inl F))) (hn : n ≤ 2147483648) (hu : va_up h a (.inl (1, n, .inr (.inl (va_up F j x)))) = h2) (hk : k = Int32.ofNat j) (hj : j < n)
    (w : zV sc M (pc + 1) L t p h2 Q) : zV sc M pc L (.long x :: .int k :: .ref a :: t) p h Q := by
  subst hk hu
  refine zV_s hi ?_ w
  have e : zwr false M .lastore (.long x :: .int (Int32.ofNat j) :: .ref a :: t) (86, p) h = some (1, t, va_up h a (.inl (1, n, .inr (.inl (va_up F j x))))) := by
    simp only [zwr, zbltT ha, hc, zN_ib hj hn, zN_cl hj hn, cond_true]
    rfl
  simp only [zstep, zstk, zlcl, zbr, zrd, e]
theorem zV_inc {k : Nat} {c : Int} {x : Int32} (L' : zL) (hi : zlk M.2.2.2.2.2.2.1 pc = some (.iinc k c)) (hL : L[k]? = some (some (.int x))) (e : zst1 L k (.int (x + Int32.ofInt c)) = L') (w : zV sc M (pc + 3) L' st p h Q) : zV sc M pc L st p h Q := by
  subst e
  refine zV_s hi ?_ w
  simp only [zstep, zstk, zlcl, zinc, hL]
end ZV
/-- what a call of the class comes to, and a call of the reference -/
def zkq (r0 : zR) (S : zSs) (X : zXt) (I : zIt) (A : zAt) (w : Nat → Int64) (r : zR) (h : zH) : Prop := r = r0 ∧ ∃ K, zCA S X K ∧ h = zh K I A w
def zrq (r0 : zR) (S : zSs) (X : zXt) (code : Int32) (K : zKt) (w : Nat → Int64) (r : zR) (h : zH) : Prop := r = r0 ∧ ∃ I A, zRA S X code I A ∧ h = zh K I A w
def zow (w : Nat → Int64) (x : Int32 ⊕ Nat) : Nat → Int64 := match x with
  | .inl v => va_up w 0 v.toInt64
  | .inr _ => w
def zowL (w : Nat → Int64) (x : Int64 ⊕ Nat) : Nat → Int64 := match x with
  | .inl v => va_up w 0 v
  | .inr _ => w
def zpx' {α : Type} (p : Nat × Nat) (x : α ⊕ Nat) : Nat × Nat := match x with
  | .inl _ => p
  | .inr _ => (p.1 + 1, p.2 + 6)
theorem zpx_b {α : Type} (p : Nat × Nat) (x : α ⊕ Nat) : (zpx' p x).1 ≤ p.1 + 1 ∧ (zpx' p x).2 ≤ p.2 + 6 := by
  cases x with
  | inl v => exact ⟨Nat.le_succ _, Nat.le_add_right _ _⟩
  | inr e => exact ⟨Nat.le_refl _, Nat.le_refl _⟩
theorem R_thrown {S : zSs} {X : zXt} {c : Int32} {K : zKt} {I : zIt} {A : zAt} {w : Nat → Int64} {p : Nat × Nat} (h : zRA S X c I A) : zT zm_138 [.ref 75] p (zh K I A w) (fun r h' => r = .inl (some (.int c)) ∧ h' = zh K I A w) := by
  obtain ⟨rf, rs, bad, pr, pn, J, m, pa, pb, pc, vf, vs, B, rfl, rfl, _, _⟩ := h
  change zW zm_138 0 [some (.ref 75)] [] p _ _
  exact zW_rh (some (.int c)) 3 (fun f => rfl) ⟨rfl, rfl⟩
