/-! more of the heap's picture: first writes, reads behind a write -/
abbrev zJt : Type := Nat × Nat × Bool × Int32 × Int32 × Nat × Nat × Nat
abbrev zBt : Type := (Nat → Int32) × (Nat → Int32) × (Nat → Int32)
abbrev zPt : Type := Nat → (Nat → Int32) × (Nat → Int32) × (Nat → Int32)
abbrev zYt : Type := ((Nat → Int32) × Nat) × ((Nat → Int32) × Nat) × ((Nat → Int64) × Nat × Int32 × Nat × Bool)
section ZW3
variable {M : zM} {pc : Nat} {L : zL} {st : List Value} {p : Nat × Nat} {h : zH} {Q : zR → zH → Prop}
theorem zW_gh (pc' : Nat) (L' : zL) (st' : List Value) (k : Nat) (e : ∀ f, zrun (f + k) none false M pc L st (86, p) h = zrun f none false M pc' L' st' (86, p) h) (w : zW M pc' L' st' p h Q) : zW M pc L st p h Q := zW_go k e w
theorem zW_bh (b : Bool) (pc' pf : Nat) (L' : zL) (st' : List Value) (k : Nat) (e : ∀ f, zrun (f + k) none false M pc L st (86, p) h = match b with
    | true => zrun f none false M pc' L' st' (86, p) h
    | false => zrun f none false M pf L' st' (86, p) h) (wt : b = true → zW M pc' L' st' p h Q) (wf : b = false → zW M pf L' st' p h Q) : zW M pc L st p h Q := zW_br k e wt wf
theorem zW_inc {k : Nat} {c : Int} {x : Int32} (L' : zL) (hi : zlk M.2.2.2.2.2.2.1 pc = some (.iinc k c)) (hL : L[k]? = some (some (.int x))) (e : zst1 L k (.int (x + Int32.ofInt c)) = L') (w : zW M (pc + 3) L' st p h Q) : zW M pc L st p h Q := by
  subst e
  refine zW_s hi ?_ w
  simp only [zstep, zstk, zlcl, zinc, hL]
theorem zW_rh (v : Option Value) (k : Nat) (e : ∀ f, zrun (f + k) none false M pc L st (86, p) h = some (.inl (v, (86, p), h))) (q : Q (.inl v) h) : zW M pc L st p h Q := zW_ret k e q
theorem zW_th (x : Nat) (k : Nat) (e : ∀ f, zrun (f + k) none false M pc L st (86, p) h = some (.inr (x, (86, p), h))) (q : Q (.inr x) h) : zW M pc L st p h Q := zW_thr k e q
end ZW3
def zrk (k : Nat) : Nat := match k with
  | 0 => 0
  | 1 => 1
  | 2 => 2
  | 3 => 3
  | 4 => 5
  | _ => 7
theorem zsls_ok {k : Nat} (h : k < 3) : zsls k = some (21 + 8 * k) := by
  match k, h with
  | 0, _ => rfl
  | 1, _ => rfl
  | 2, _ => rfl
theorem zrgs_ok {k : Nat} (h : k < 6) : zrgs k = some (zra (zrk k)) := by
  match k, h with
  | 0, _ => rfl
  | 1, _ => rfl
  | 2, _ => rfl
  | 3, _ => rfl
  | 4, _ => rfl
  | 5, _ => rfl
section ZH2
variable {I : zIt} {A : zAt} {w : Nat → Int64} {P : Nat → (Nat → Int32) × (Nat → Int32) × (Nat → Int32)} {T : Nat → zX} {y u : (Nat → Int32) × Nat} {d : (Nat → Int64) × Nat × Int32 × Nat × Bool}
theorem zh_TU {i c : Nat} {X : zX} (hi : i < 6) (hc : c < 8) : zh (P, va_up T i X, y, u, d) I A w (21 + 8 * i + c) = zxc i X c := by rw [zh_T hi hc, va_up_self]
theorem zh_TU0 {i : Nat} {X : zX} (hi : i < 6) : zh (P, va_up T i X, y, u, d) I A w (21 + 8 * i) = .inr (2, zxf i X) := zh_TU (c := 0) hi (by decide)
theorem zh_PU {j c : Nat} {X : (Nat → Int32) × (Nat → Int32) × (Nat → Int32)} (h1 : 1 ≤ j) (h4 : j ≤ 4) (hc : c < 4) : zh (va_up P j X, T, y, u, d) I A w (4 * j + c) = zpc j X c := by rw [zh_P h1 h4 hc, va_up_self]
theorem zuF_M0 {i r1 hg1 wd1 ct1 : Nat} (hi : i < 6) : va_up (zh (P, T, y, u, d) I A w) (21 + 8 * i) (.inr (2, zxf i (r1, hg1, wd1, ct1, (T i).2.2.2.2.1, (T i).2.2.2.2.2.1, (T i).2.2.2.2.2.2.1, (T i).2.2.2.2.2.2.2.1, (T i).2.2.2.2.2.2.2.2.1, (T i).2.2.2.2.2.2.2.2.2.1, (T i).2.2.2.2.2.2.2.2.2.2))) = zh (P, va_up T i (r1, hg1, wd1, ct1, (T i).2.2.2.2.1, (T i).2.2.2.2.2.1, (T i).2.2.2.2.2.2.1, (T i).2.2.2.2.2.2.2.1, (T i).2.2.2.2.2.2.2.2.1, (T i).2.2.2.2.2.2.2.2.2.1, (T i).2.2.2.2.2.2.2.2.2.2), y, u, d) I A w := by
  have h := zu_M0 (P := P) (T := T) (y := y) (u := u) (d := d) (I := I) (A := A) (w := w) (i := i) (r := (T i).1) (hg := (T i).2.1) (wd := (T i).2.2.1) (ct := (T i).2.2.2.1) (e := (T i).2.2.2.2.1) (o := (T i).2.2.2.2.2.1) (ln := (T i).2.2.2.2.2.2.1) (kd := (T i).2.2.2.2.2.2.2.1) (tg := (T i).2.2.2.2.2.2.2.2.1) (sr := (T i).2.2.2.2.2.2.2.2.2.1) (fa := (T i).2.2.2.2.2.2.2.2.2.2) (r1 := r1) (hg1 := hg1) (wd1 := wd1) (ct1 := ct1) hi
  rw [show va_up T i ((T i).1, (T i).2.1, (T i).2.2.1, (T i).2.2.2.1, (T i).2.2.2.2.1, (T i).2.2.2.2.2.1, (T i).2.2.2.2.2.2.1, (T i).2.2.2.2.2.2.2.1, (T i).2.2.2.2.2.2.2.2.1, (T i).2.2.2.2.2.2.2.2.2.1, (T i).2.2.2.2.2.2.2.2.2.2) = T from va_up_id T i] at h
  exact h
theorem zuF_M1 {i : Nat} {G : Nat → Int64} (hi : i < 6) : va_up (zh (P, T, y, u, d) I A w) (21 + 8 * i + 1) (.inl (1, 16, .inr (.inl G))) = zh (P, va_up T i ((T i).1, (T i).2.1, (T i).2.2.1, (T i).2.2.2.1, G, (T i).2.2.2.2.2.1, (T i).2.2.2.2.2.2.1, (T i).2.2.2.2.2.2.2.1, (T i).2.2.2.2.2.2.2.2.1, (T i).2.2.2.2.2.2.2.2.2.1, (T i).2.2.2.2.2.2.2.2.2.2), y, u, d) I A w := by
  have h := zu_M1 (P := P) (T := T) (y := y) (u := u) (d := d) (I := I) (A := A) (w := w) (i := i) (r := (T i).1) (hg := (T i).2.1) (wd := (T i).2.2.1) (ct := (T i).2.2.2.1) (e := (T i).2.2.2.2.1) (o := (T i).2.2.2.2.2.1) (ln := (T i).2.2.2.2.2.2.1) (kd := (T i).2.2.2.2.2.2.2.1) (tg := (T i).2.2.2.2.2.2.2.2.1) (sr := (T i).2.2.2.2.2.2.2.2.2.1) (fa := (T i).2.2.2.2.2.2.2.2.2.2) (G := G) hi
  rw [show va_up T i ((T i).1, (T i).2.1, (T i).2.2.1, (T i).2.2.2.1, (T i).2.2.2.2.1, (T i).2.2.2.2.2.1, (T i).2.2.2.2.2.2.1, (T i).2.2.2.2.2.2.2.1, (T i).2.2.2.2.2.2.2.2.1, (T i).2.2.2.2.2.2.2.2.2.1, (T i).2.2.2.2.2.2.2.2.2.2) = T from va_up_id T i] at h
  exact h
theorem zuF_M2 {i : Nat} {G : Nat → Int64} (hi : i < 6) : va_up (zh (P, T, y, u, d) I A w) (21 + 8 * i + 2) (.inl (1, 16, .inr (.inl G))) = zh (P, va_up T i ((T i).1, (T i).2.1, (T i).2.2.1, (T i).2.2.2.1, (T i).2.2.2.2.1, G, (T i).2.2.2.2.2.2.1, (T i).2.2.2.2.2.2.2.1, (T i).2.2.2.2.2.2.2.2.1, (T i).2.2.2.2.2.2.2.2.2.1, (T i).2.2.2.2.2.2.2.2.2.2), y, u, d) I A w := by
  have h := zu_M2 (P := P) (T := T) (y := y) (u := u) (d := d) (I := I) (A := A) (w := w) (i := i) (r := (T i).1) (hg := (T i).2.1) (wd := (T i).2.2.1) (ct := (T i).2.2.2.1) (e := (T i).2.2.2.2.1) (o := (T i).2.2.2.2.2.1) (ln := (T i).2.2.2.2.2.2.1) (kd := (T i).2.2.2.2.2.2.2.1) (tg := (T i).2.2.2.2.2.2.2.2.1) (sr := (T i).2.2.2.2.2.2.2.2.2.1) (fa := (T i).2.2.2.2.2.2.2.2.2.2) (G := G) hi
  rw [show va_up T i ((T i).1, (T i).2.1, (T i).2.2.1, (T i).2.2.2.1, (T i).2.2.2.2.1, (T i).2.2.2.2.2.1, (T i).2.2.2.2.2.2.1, (T i).2.2.2.2.2.2.2.1, (T i).2.2.2.2.2.2.2.2.1, (T i).2.2.2.2.2.2.2.2.2.1, (T i).2.2.2.2.2.2.2.2.2.2) = T from va_up_id T i] at h
  exact h
theorem zuF_M3 {i : Nat} {G : Nat → Int64} (hi : i < 6) : va_up (zh (P, T, y, u, d) I A w) (21 + 8 * i + 3) (.inl (1, 4, .inr (.inl G))) = zh (P, va_up T i ((T i).1, (T i).2.1, (T i).2.2.1, (T i).2.2.2.1, (T i).2.2.2.2.1, (T i).2.2.2.2.2.1, G, (T i).2.2.2.2.2.2.2.1, (T i).2.2.2.2.2.2.2.2.1, (T i).2.2.2.2.2.2.2.2.2.1, (T i).2.2.2.2.2.2.2.2.2.2), y, u, d) I A w := by
  have h := zu_M3 (P := P) (T := T) (y := y) (u := u) (d := d) (I := I) (A := A) (w := w) (i := i) (r := (T i).1) (hg := (T i).2.1) (wd := (T i).2.2.1) (ct := (T i).2.2.2.1) (e := (T i).2.2.2.2.1) (o := (T i).2.2.2.2.2.1) (ln := (T i).2.2.2.2.2.2.1) (kd := (T i).2.2.2.2.2.2.2.1) (tg := (T i).2.2.2.2.2.2.2.2.1) (sr := (T i).2.2.2.2.2.2.2.2.2.1) (fa := (T i).2.2.2.2.2.2.2.2.2.2) (G := G) hi
  rw [show va_up T i ((T i).1, (T i).2.1, (T i).2.2.1, (T i).2.2.2.1, (T i).2.2.2.2.1, (T i).2.2.2.2.2.1, (T i).2.2.2.2.2.2.1, (T i).2.2.2.2.2.2.2.1, (T i).2.2.2.2.2.2.2.2.1, (T i).2.2.2.2.2.2.2.2.2.1, (T i).2.2.2.2.2.2.2.2.2.2) = T from va_up_id T i] at h
  exact h
theorem zuF_M4 {i : Nat} {F : Nat → Int32} (hi : i < 6) : va_up (zh (P, T, y, u, d) I A w) (21 + 8 * i + 4) (.inl (0, 200, .inl F)) = zh (P, va_up T i ((T i).1, (T i).2.1, (T i).2.2.1, (T i).2.2.2.1, (T i).2.2.2.2.1, (T i).2.2.2.2.2.1, (T i).2.2.2.2.2.2.1, F, (T i).2.2.2.2.2.2.2.2.1, (T i).2.2.2.2.2.2.2.2.2.1, (T i).2.2.2.2.2.2.2.2.2.2), y, u, d) I A w := by
  have h := zu_M4 (P := P) (T := T) (y := y) (u := u) (d := d) (I := I) (A := A) (w := w) (i := i) (r := (T i).1) (hg := (T i).2.1) (wd := (T i).2.2.1) (ct := (T i).2.2.2.1) (e := (T i).2.2.2.2.1) (o := (T i).2.2.2.2.2.1) (ln := (T i).2.2.2.2.2.2.1) (kd := (T i).2.2.2.2.2.2.2.1) (tg := (T i).2.2.2.2.2.2.2.2.1) (sr := (T i).2.2.2.2.2.2.2.2.2.1) (fa := (T i).2.2.2.2.2.2.2.2.2.2) (F := F) hi
  rw [show va_up T i ((T i).1, (T i).2.1, (T i).2.2.1, (T i).2.2.2.1, (T i).2.2.2.2.1, (T i).2.2.2.2.2.1, (T i).2.2.2.2.2.2.1, (T i).2.2.2.2.2.2.2.1, (T i).2.2.2.2.2.2.2.2.1, (T i).2.2.2.2.2.2.2.2.2.1, (T i).2.2.2.2.2.2.2.2.2.2) = T from va_up_id T i] at h
  exact h
theorem zuF_M5 {i : Nat} {F : Nat → Int32} (hi : i < 6) : va_up (zh (P, T, y, u, d) I A w) (21 + 8 * i + 5) (.inl (0, 200, .inl F)) = zh (P, va_up T i ((T i).1, (T i).2.1, (T i).2.2.1, (T i).2.2.2.1, (T i).2.2.2.2.1, (T i).2.2.2.2.2.1, (T i).2.2.2.2.2.2.1, (T i).2.2.2.2.2.2.2.1, F, (T i).2.2.2.2.2.2.2.2.2.1, (T i).2.2.2.2.2.2.2.2.2.2), y, u, d) I A w := by
  have h := zu_M5 (P := P) (T := T) (y := y) (u := u) (d := d) (I := I) (A := A) (w := w) (i := i) (r := (T i).1) (hg := (T i).2.1) (wd := (T i).2.2.1) (ct := (T i).2.2.2.1) (e := (T i).2.2.2.2.1) (o := (T i).2.2.2.2.2.1) (ln := (T i).2.2.2.2.2.2.1) (kd := (T i).2.2.2.2.2.2.2.1) (tg := (T i).2.2.2.2.2.2.2.2.1) (sr := (T i).2.2.2.2.2.2.2.2.2.1) (fa := (T i).2.2.2.2.2.2.2.2.2.2) (F := F) hi
  rw [show va_up T i ((T i).1, (T i).2.1, (T i).2.2.1, (T i).2.2.2.1, (T i).2.2.2.2.1, (T i).2.2.2.2.2.1, (T i).2.2.2.2.2.2.1, (T i).2.2.2.2.2.2.2.1, (T i).2.2.2.2.2.2.2.2.1, (T i).2.2.2.2.2.2.2.2.2.1, (T i).2.2.2.2.2.2.2.2.2.2) = T from va_up_id T i] at h
  exact h
theorem zuF_M6 {i : Nat} {F : Nat → Int32} (hi : i < 6) : va_up (zh (P, T, y, u, d) I A w) (21 + 8 * i + 6) (.inl (0, 200, .inl F)) = zh (P, va_up T i ((T i).1, (T i).2.1, (T i).2.2.1, (T i).2.2.2.1, (T i).2.2.2.2.1, (T i).2.2.2.2.2.1, (T i).2.2.2.2.2.2.1, (T i).2.2.2.2.2.2.2.1, (T i).2.2.2.2.2.2.2.2.1, F, (T i).2.2.2.2.2.2.2.2.2.2), y, u, d) I A w := by
  have h := zu_M6 (P := P) (T := T) (y := y) (u := u) (d := d) (I := I) (A := A) (w := w) (i := i) (r := (T i).1) (hg := (T i).2.1) (wd := (T i).2.2.1) (ct := (T i).2.2.2.1) (e := (T i).2.2.2.2.1) (o := (T i).2.2.2.2.2.1) (ln := (T i).2.2.2.2.2.2.1) (kd := (T i).2.2.2.2.2.2.2.1) (tg := (T i).2.2.2.2.2.2.2.2.1) (sr := (T i).2.2.2.2.2.2.2.2.2.1) (fa := (T i).2.2.2.2.2.2.2.2.2.2) (F := F) hi
  rw [show va_up T i ((T i).1, (T i).2.1, (T i).2.2.1, (T i).2.2.2.1, (T i).2.2.2.2.1, (T i).2.2.2.2.2.1, (T i).2.2.2.2.2.2.1, (T i).2.2.2.2.2.2.2.1, (T i).2.2.2.2.2.2.2.2.1, (T i).2.2.2.2.2.2.2.2.2.1, (T i).2.2.2.2.2.2.2.2.2.2) = T from va_up_id T i] at h
  exact h
theorem zuF_M7 {i : Nat} {G : Nat → Int64} (hi : i < 6) : va_up (zh (P, T, y, u, d) I A w) (21 + 8 * i + 7) (.inl (1, 200, .inr (.inl G))) = zh (P, va_up T i ((T i).1, (T i).2.1, (T i).2.2.1, (T i).2.2.2.1, (T i).2.2.2.2.1, (T i).2.2.2.2.2.1, (T i).2.2.2.2.2.2.1, (T i).2.2.2.2.2.2.2.1, (T i).2.2.2.2.2.2.2.2.1, (T i).2.2.2.2.2.2.2.2.2.1, G), y, u, d) I A w := by
  have h := zu_M7 (P := P) (T := T) (y := y) (u := u) (d := d) (I := I) (A := A) (w := w) (i := i) (r := (T i).1) (hg := (T i).2.1) (wd := (T i).2.2.1) (ct := (T i).2.2.2.1) (e := (T i).2.2.2.2.1) (o := (T i).2.2.2.2.2.1) (ln := (T i).2.2.2.2.2.2.1) (kd := (T i).2.2.2.2.2.2.2.1) (tg := (T i).2.2.2.2.2.2.2.2.1) (sr := (T i).2.2.2.2.2.2.2.2.2.1) (fa := (T i).2.2.2.2.2.2.2.2.2.2) (G := G) hi
  rw [show va_up T i ((T i).1, (T i).2.1, (T i).2.2.1, (T i).2.2.2.1, (T i).2.2.2.2.1, (T i).2.2.2.2.2.1, (T i).2.2.2.2.2.2.1, (T i).2.2.2.2.2.2.2.1, (T i).2.2.2.2.2.2.2.2.1, (T i).2.2.2.2.2.2.2.2.2.1, (T i).2.2.2.2.2.2.2.2.2.2) = T from va_up_id T i] at h
  exact h
theorem zuF_P1 {j : Nat} {F : Nat → Int32} (h1 : 1 ≤ j) (h4 : j ≤ 4) : va_up (zh (P, T, y, u, d) I A w) (4 * j + 1) (.inl (0, 8, .inl F)) = zh (va_up P j (F, (P j).2.1, (P j).2.2), T, y, u, d) I A w := by
  have h := zu_P1 (P := P) (T := T) (y := y) (u := u) (d := d) (I := I) (A := A) (w := w) (j := j) (pl := (P j).1) (pr := (P j).2.1) (pt := (P j).2.2) (F := F) h1 h4
  rw [show va_up P j ((P j).1, (P j).2.1, (P j).2.2) = P from va_up_id P j] at h
  exact h
theorem zuF_P2 {j : Nat} {F : Nat → Int32} (h1 : 1 ≤ j) (h4 : j ≤ 4) : va_up (zh (P, T, y, u, d) I A w) (4 * j + 2) (.inl (0, 8, .inl F)) = zh (va_up P j ((P j).1, F, (P j).2.2), T, y, u, d) I A w := by
  have h := zu_P2 (P := P) (T := T) (y := y) (u := u) (d := d) (I := I) (A := A) (w := w) (j := j) (pl := (P j).1) (pr := (P j).2.1) (pt := (P j).2.2) (F := F) h1 h4
  rw [show va_up P j ((P j).1, (P j).2.1, (P j).2.2) = P from va_up_id P j] at h
  exact h
theorem zuF_P3 {j : Nat} {F : Nat → Int32} (h1 : 1 ≤ j) (h4 : j ≤ 4) : va_up (zh (P, T, y, u, d) I A w) (4 * j + 3) (.inl (0, 8, .inl F)) = zh (va_up P j ((P j).1, (P j).2.1, F), T, y, u, d) I A w := by
  have h := zu_P3 (P := P) (T := T) (y := y) (u := u) (d := d) (I := I) (A := A) (w := w) (j := j) (pl := (P j).1) (pr := (P j).2.1) (pt := (P j).2.2) (F := F) h1 h4
  rw [show va_up P j ((P j).1, (P j).2.1, (P j).2.2) = P from va_up_id P j] at h
  exact h
end ZH2
