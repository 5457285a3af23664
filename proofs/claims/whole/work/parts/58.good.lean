/-! WHAT EVERY CALL KEEPS: slots that fit, and only the exceptions that the law knows -/
def zgd {α : Type} (l : List Nat) (x : (α ⊕ Nat) × zSs) : Prop := zSw x.2 ∧ ∀ e, x.1 = .inr e → e ∈ l
theorem zgd_e {α : Type} {l : List Nat} {S : zSs} {e : Nat} (hw : zSw S) (he : e ∈ l) : zgd (α := α) l (.inr e, S) := ⟨hw, fun e' h => by cases h; exact he⟩
theorem zgd_v {α : Type} {l : List Nat} {S : zSs} {v : α} (hw : zSw S) : zgd l (.inl v, S) := ⟨hw, fun e' h => by cases h⟩
theorem zslot_k {a0 : Int32} (h : ¬ zslot a0 = false) : ∃ k, k < 3 ∧ a0 = Int32.ofNat k := by
  have h : zslot a0 = true := by
    cases hz : zslot a0 with
    | true => rfl
    | false => exact absurd hz h
  unfold zslot at h
  rw [zin_iff, Int32.toInt_toInt64, show Int64.toInt 0 = 0 from rfl, show Int64.toInt 2 = 2 from rfl] at h
  obtain ⟨k, hk, rfl⟩ := zNn0 h.1
  rw [zN_i hk] at h
  exact ⟨k, by omega, rfl⟩
theorem zwith_g {α : Type} {l : List Nat} {S : zSs} {a0 : Int32} {f : zMt → (α ⊕ Nat) × zSs} (hw : zSw S) (h0 : 0 ∈ l) (h1 : 1 ∈ l) (hf : ∀ X, zmw X → zgd l (f X)) : zgd l (zwith S a0 f) := by
  unfold zwith
  split
  · exact zgd_e hw h0
  · rename_i c
    obtain ⟨k, hk, rfl⟩ := zslot_k c
    rw [znn_o (by omega)]
    cases e : S k with
    | none => exact zgd_e hw h1
    | some X => exact hf X (hw k X hk e)
theorem zboth_g {α : Type} {l : List Nat} {S : zSs} {a0 a1 : Int32} {f : zMt → zMt → (α ⊕ Nat) × zSs} (hw : zSw S) (h0 : 0 ∈ l) (h1 : 1 ∈ l) (hf : ∀ X X', zmw X → zmw X' → zgd l (f X X')) : zgd l (zboth S a0 a1 f) := by
  unfold zboth
  split
  · exact zgd_e hw h0
  · rename_i c
    obtain ⟨k0, hk0, rfl⟩ := zslot_k (fun h => c (Or.inl h))
    obtain ⟨k1, hk1, rfl⟩ := zslot_k (fun h => c (Or.inr h))
    rw [znn_o (by omega), znn_o (by omega)]
    cases e : S k0 with
    | none => exact zgd_e hw h1
    | some X =>
      cases e' : S k1 with
      | none => exact zgd_e hw h1
      | some X' => exact hf X X' (hw k0 X hk0 e) (hw k1 X' hk1 e')
theorem zisr_k {a0 : Int32} (h : ¬ zisr a0 = false) : zrg (znn a0) := by
  have h : zisr a0 = true := by
    cases hz : zisr a0 with
    | true => rfl
    | false => exact absurd hz h
  obtain ⟨k, hk, rfl⟩ := zisr_n h
  rw [znn_o (zrg_lt hk)]
  exact hk
theorem zin_14 {a : Int32} (h : ¬ zin a.toInt64 1 4 = false) : 1 ≤ znn a ∧ znn a ≤ 4 := by
  have h : zin a.toInt64 1 4 = true := by
    cases hz : zin a.toInt64 1 4 with
    | true => rfl
    | false => exact absurd hz h
  rw [zin_iff, Int32.toInt_toInt64, show Int64.toInt 1 = 1 from rfl, show Int64.toInt 4 = 4 from rfl] at h
  obtain ⟨k, hk, rfl⟩ := zNn0 (x := a) (by omega)
  rw [zN_i hk] at h
  rw [znn_o hk]
  omega
theorem g_create {S : zSs} {a0 a1 a2 a3 : Int32} (hw : zSw S) : zgd [0, 2] (zc_create S a0 a1 a2 a3) := by
  unfold zc_create
  split
  · exact zgd_e hw (by decide)
  · split
    · exact zgd_e hw (by decide)
    · rename_i c
      have hr := zisr_k (fun h => c (Or.inl h))
      have h1 := zin_14 (fun h => c (Or.inr (Or.inl h)))
      have h2 := zin_14 (fun h => c (Or.inr (Or.inr h)))
      exact zgd_v (zSw_up hw ⟨⟨hr, h1.1, h1.2, h2.1, h2.2⟩, zwf_0 (zZ_w hr)⟩)
theorem g_set {S : zSs} {a0 a1 a2 a3 a4 : Int32} (hw : zSw S) : zgd [0, 1, 2] (zc_set S a0 a1 a2 a3 a4) := by
  refine zwith_g hw (by decide) (by decide) (fun X hX => ?_)
  split
  · rename_i c
    obtain ⟨x, y, hx, hy, ex, ey⟩ := zcel_n c.1
    have h4 := hX.1.2.2.1
    have h5 := hX.1.2.2.2.2
    refine zgd_v (zSw_up hw ⟨hX.1, zwf_0 (zupE_w hX.2.2.1 ?_ ?_ ((zise_ok hX.1.1).mp c.2))⟩)
    · rw [ex, znn_o (by omega)]; exact hx
    · rw [ey, znn_o (by omega)]; exact hy
  · exact zgd_e hw (by decide)
theorem g_copy {S : zSs} {a0 a1 : Int32} (hw : zSw S) : zgd [0, 1] (zc_copy S a0 a1) := by
  unfold zc_copy
  split
  · exact zgd_e hw (by decide)
  · rename_i c
    obtain ⟨k, hk, rfl⟩ := zslot_k (fun h => c (Or.inl h))
    rw [znn_o (by omega)]
    cases e : S k with
    | none => exact zgd_e hw (by decide)
    | some X => exact zgd_v (zSw_up hw (hw k X hk e))
theorem g_of {S : zSs} {a0 : Int32} {f : zMt → Nat} {v : Int32} (hw : zSw S) : zgd [0] (zc_of S a0 f v) := by
  unfold zc_of
  split
  · exact zgd_e hw (by decide)
  · split
    · exact zgd_v hw
    · exact zgd_v hw
theorem g_entry {S : zSs} {a0 a1 a2 a3 : Int32} (hw : zSw S) : zgd [0, 1, 2] (zc_entry S a0 a1 a2 a3) := by
  refine zwith_g hw (by decide) (by decide) (fun X hX => ?_)
  split
  · exact zgd_v hw
  · exact zgd_e hw (by decide)
theorem g_do {S : zSs} {a0 : Int32} {X : zMt} {s : zSt} (hw : zSw S) (hX : zmw X) (hs : zsv X.1 X.2.1 X.2.2.1 s) : zgd [0, 1, 2, 3] (zdoS S a0 X s) := by
  unfold zdoS
  split
  · exact zgd_e hw (by decide)
  · rename_i τ e
    exact zgd_v (zSw_up hw ⟨hX.1, zdo_w hX.1.1 hX.2 hs e⟩)
theorem g_swap {S : zSs} {a0 a2 a3 : Int32} {c : Bool} (hw : zSw S) : zgd [0, 1, 2, 3] (zc_swap S a0 c a2 a3) := by
  refine zwith_g hw (by decide) (by decide) (fun X hX => ?_)
  split
  · rename_i h
    have hl := zll_le hX.1 c
    obtain ⟨x, hx, rfl⟩ := zlin_n h.1
    obtain ⟨y, hy, rfl⟩ := zlin_n h.2.1
    rw [znn_o (by omega), znn_o (by omega)]
    exact g_do hw hX (zswp_sv hX.1.1 c hy hx (fun g => h.2.2 (by rw [g])))
  · exact zgd_e hw (by decide)
theorem g_add {S : zSs} {a0 a2 a3 a4 a5 : Int32} {c : Bool} (hw : zSw S) : zgd [0, 1, 2, 3] (zc_add S a0 c a2 a3 a4 a5) := by
  refine zwith_g hw (by decide) (by decide) (fun X hX => ?_)
  split
  · rename_i h
    have hl := zll_le hX.1 c
    obtain ⟨x, hx, rfl⟩ := zlin_n h.1
    obtain ⟨y, hy, rfl⟩ := zlin_n h.2.1
    rw [znn_o (by omega), znn_o (by omega)]
    exact g_do hw hX (zadd_sv hx hy (fun g => h.2.2.1 (by rw [g])) ((zise_ok hX.1.1).mp h.2.2.2))
  · exact zgd_e hw (by decide)
theorem g_scale {S : zSs} {a0 a2 a3 a4 : Int32} {c : Bool} (hw : zSw S) : zgd [0, 1, 2, 3] (zc_scale S a0 c a2 a3 a4) := by
  refine zwith_g hw (by decide) (by decide) (fun X hX => ?_)
  split
  · rename_i h
    have hl := zll_le hX.1 c
    obtain ⟨x, hx, rfl⟩ := zlin_n h.1
    rw [znn_o (by omega)]
    exact g_do hw hX (zscl_sv hX.1.1 c hx ((zisu_ok hX.1.1).mp h.2))
  · exact zgd_e hw (by decide)
theorem g_back {S : zSs} {a0 : Int32} (hw : zSw S) : zgd [0, 1] (zc_back S a0) := by
  refine zwith_g hw (by decide) (by decide) (fun X hX => ?_)
  split
  · exact zgd_e hw (by decide)
  · split
    · exact zgd_e hw (by decide)
    · rename_i h0 E e
      obtain ⟨w1, w2, w3, w4, w5⟩ := hX.2
      have hg : ∀ k, k < X.2.2.2.2.1 - 1 → zsv X.1 X.2.1 X.2.2.1 (X.2.2.2.2.2.2 k) := fun k hk => w4 k (by omega)
      exact zgd_v (zSw_up hw ⟨hX.1, ⟨by show X.2.2.2.2.1 - 1 ≤ 200; omega, zrp_w hX.1.1 w3 hg e, w3, hg, e⟩⟩)
theorem zhrm_w {r h d : Nat} (hsh : zsh r h d) {O : zMe} {σ τ : zFo} {ρ : Nat} (hw : zwf r h d O σ) (e : zhrm r h d d 0 0 σ = some (ρ, τ)) : zwf r h d O τ := by
  have hX : zCX (r, h, d, σ.1, (fun k => zen (σ.2.1 (k / 4) (k % 4))), (fun k => zen (O (k / 4) (k % 4))), (fun _ => 0), (fun k => Int32.ofNat (σ.2.2 k).1), (fun k => Int32.ofNat (σ.2.2 k).2.1), (fun k => zsj (σ.2.2 k)), (fun k => zen (σ.2.2 k).2.2.2)) r h d O σ := by
    refine ⟨⟨rfl, rfl, rfl⟩, rfl, fun a c ha hc => ?_, fun a c ha hc => ?_, fun k hk => ⟨rfl, rfl, rfl, rfl⟩⟩
    · show zen (σ.2.1 ((a * 4 + c) / 4) ((a * 4 + c) % 4)) = _
      rw [show (a * 4 + c) / 4 = a by omega, show (a * 4 + c) % 4 = c by omega]
    · show zen (O ((a * 4 + c) / 4) ((a * 4 + c) % 4)) = _
      rw [show (a * 4 + c) / 4 = a by omega, show (a * 4 + c) % 4 = c by omega]
  have z := s11 (i := 3) (P := fun _ => (fun _ => 0, fun _ => 0, fun _ => 0)) (T := fun _ => (r, h, d, σ.1, (fun k => zen (σ.2.1 (k / 4) (k % 4))), (fun k => zen (O (k / 4) (k % 4))), (fun _ => 0), (fun k => Int32.ofNat (σ.2.2 k).1), (fun k => Int32.ofNat (σ.2.2 k).2.1), (fun k => zsj (σ.2.2 k)), (fun k => zen (σ.2.2 k).2.2.2))) (Y := ((fun _ => 0, 0), (fun _ => 0, 0), (fun _ => 0, 0, 0, 0, false))) (I := (0, 0, 0, false, 0, 0, 0, 0, false, 0, 0, 0, 0, 0)) (A := (fun _ => 0, fun _ => 0, fun _ => 0, fun _ => 0, fun _ => 0, fun _ => 0, fun _ => 0, fun _ => 0, fun _ => 0)) (w := fun _ => 0) (p := (0, 0)) (Q := fun _ _ => zwf r h d O τ) (by omega) hsh hX hw (fun ρ' τ' e' P' T' _ _ hw' => by rw [e] at e'; cases e'; exact hw') (fun e' => by rw [e] at e'; cases e')
  obtain ⟨_, _, _, _, q⟩ := z
  exact q
theorem g_herm {S : zSs} {a0 : Int32} (hw : zSw S) : zgd [0, 1, 3] (zc_form S a0 zfH) := by
  refine zwith_g hw (by decide) (by decide) (fun X hX => ?_)
  split
  · exact zgd_e hw (by decide)
  · rename_i q e
    exact zgd_v (zSw_up hw ⟨hX.1, zhrm_w hX.1 hX.2 (show zhrm X.1 X.2.1 X.2.2.1 X.2.2.1 0 0 X.2.2.2.2 = some (q.1, q.2) from e)⟩)
theorem g_smith {S : zSs} {a0 : Int32} (hw : zSw S) : zgd [0, 1, 3] (zc_form S a0 zfS) := by
  refine zwith_g hw (by decide) (by decide) (fun X hX => ?_)
  split
  · exact zgd_e hw (by decide)
  · rename_i q e
    exact zgd_v (zSw_up hw ⟨hX.1, (zsmt_w hX.1 205 true 0 q.1 X.2.2.2.2 q.2 (by omega) hX.2 ⟨by omega, by omega, fun h => (by cases h)⟩ (fun k hk => absurd hk (Nat.not_lt_zero k)) e).1⟩)
theorem g_step {S : zSs} {a0 a1 a2 : Int32} (hw : zSw S) : zgd [0, 2] (zc_step S a0 a1 a2) := by
  unfold zc_step
  split
  · exact zgd_e hw (by decide)
  · split
    · exact zgd_e hw (by decide)
    · split
      · exact zgd_e hw (by decide)
      · split
        · exact zgd_e hw (by decide)
        · exact zgd_v hw
theorem g_after {S : zSs} {a0 a1 a2 a3 a4 : Int32} (hw : zSw S) : zgd [0, 1, 2] (zc_after S a0 a1 a2 a3 a4) := by
  refine zwith_g hw (by decide) (by decide) (fun X hX => ?_)
  split
  · split
    · exact zgd_e hw (by decide)
    · exact zgd_v hw
  · exact zgd_e hw (by decide)
theorem g_mul {S : zSs} {a0 a1 a2 : Int32} (hw : zSw S) : zgd [0, 1, 3] (zc_mul S a0 a1 a2) := by
  unfold zc_mul
  split
  · exact zgd_e hw (by decide)
  · rename_i c
    obtain ⟨k0, hk0, rfl⟩ := zslot_k (fun h => c (Or.inl h))
    obtain ⟨k1, hk1, rfl⟩ := zslot_k (fun h => c (Or.inr (Or.inl h)))
    rw [znn_o (by omega), znn_o (by omega)]
    cases e : S k0 with
    | none => exact zgd_e hw (by decide)
    | some X =>
      cases e' : S k1 with
      | none => exact zgd_e hw (by decide)
      | some Y =>
        have hX := hw k0 X hk0 e
        have hY := hw k1 Y hk1 e'
        show zgd _ (if X.1 = Y.1 ∧ X.2.2.1 = Y.2.1 then _ else _)
        split
        · rename_i h
          split
          · exact zgd_e hw (by decide)
          · rename_i E eE
            have hF := hY.2.2.1
            rw [← h.1] at hF
            exact zgd_v (zSw_up hw ⟨⟨hX.1.1, hX.1.2.1, hX.1.2.2.1, hY.1.2.2.2.1, hY.1.2.2.2.2⟩, zwf_0 (zmuE_w hX.1.1 hX.2.2.1 hF eE)⟩)
        · exact zgd_e hw (by decide)
theorem g_trans {S : zSs} {a0 a1 : Int32} {c : Bool} (hw : zSw S) : zgd [0, 1, 3] (zc_trans S a0 a1 c) := by
  refine zboth_g hw (by decide) (by decide) (fun X X' hX hY => ?_)
  split
  · rename_i h
    split
    · exact zgd_e hw (by decide)
    · rename_i τ e
      have hv := hX.2.2.2.2.1
      rw [h.2.1] at hv
      exact zgd_v (zSw_up hw ⟨hY.1, ztf_w hY.1.1 h.2.2 X.2.2.2.2.1 0 X'.2.2.2.2 τ (fun i _ hi => hv i (by omega)) hY.2 e⟩)
  · exact zgd_e hw (by decide)
theorem g_inva {S : zSs} {a0 a1 a2 : Int32} (hw : zSw S) : zgd [0, 1, 2, 3] (zc_inva S a0 a1 a2) := by
  refine zwith_g hw (by decide) (by decide) (fun X hX => ?_)
  split
  · split
    · exact zgd_e hw (by decide)
    · exact zgd_v hw
  · exact zgd_e hw (by decide)
theorem g_order {S : zSs} {a0 : Int32} (hw : zSw S) : zgd [0, 1, 3] (zc_order S a0) := by
  refine zwith_g hw (by decide) (by decide) (fun X hX => ?_)
  split
  · exact zgd_e hw (by decide)
  · split
    · split
      · exact zgd_e hw (by decide)
      · exact zgd_v hw
    · exact zgd_v hw
theorem g_det {S : zSs} {a0 a1 : Int32} (hw : zSw S) : zgd [0, 1, 2, 3] (zc_det S a0 a1) := by
  refine zwith_g hw (by decide) (by decide) (fun X hX => ?_)
  split
  · split
    · split
      · exact zgd_e hw (by decide)
      · split
        · split
          · exact zgd_e hw (by decide)
          · exact zgd_v hw
        · exact zgd_v hw
    · exact zgd_e hw (by decide)
  · exact zgd_e hw (by decide)
theorem g_span {S : zSs} {a0 a1 : Int32} (hw : zSw S) : zgd [0, 1, 3] (zc_span S a0 a1) := by
  refine zboth_g hw (by decide) (by decide) (fun X X' hX hY => ?_)
  split
  · split
    · exact zgd_v hw
    · exact zgd_e hw (by decide)
  · exact zgd_v hw
theorem g_equi {S : zSs} {a0 a1 : Int32} (hw : zSw S) : zgd [0, 1, 3] (zc_equi S a0 a1) := by
  refine zboth_g hw (by decide) (by decide) (fun X X' hX hY => ?_)
  split
  · split
    · exact zgd_v hw
    · exact zgd_e hw (by decide)
  · exact zgd_v hw
theorem g_quot {S : zSs} {a0 a1 a2 a3 : Int32} (hw : zSw S) : zgd [2, 3] (zc_quot S a0 a1 a2 a3) := by
  unfold zc_quot
  split
  · exact zgd_e hw (by decide)
  · split
    · exact zgd_e hw (by decide)
    · exact zgd_v hw
theorem g_gcd {S : zSs} {a0 a1 a2 a3 a4 a5 : Int32} (hw : zSw S) : zgd [2] (zc_gcd S a0 a1 a2 a3 a4 a5) := by
  unfold zc_gcd
  split
  · exact zgd_e hw (by decide)
  · exact zgd_v hw
theorem g_solve {S : zSs} {a0 a1 a2 : Int32} (hw : zSw S) : zgd [0, 1, 3] (zc_solve S a0 a1 a2) := by
  unfold zc_solve
  split
  · exact zgd_e hw (by decide)
  · rename_i c
    obtain ⟨k0, hk0, rfl⟩ := zslot_k (fun h => c (Or.inl h))
    obtain ⟨k1, hk1, rfl⟩ := zslot_k (fun h => c (Or.inr (Or.inl h)))
    rw [znn_o (by omega), znn_o (by omega)]
    cases e : S k0 with
    | none => exact zgd_e hw (by decide)
    | some X =>
      cases e' : S k1 with
      | none => exact zgd_e hw (by decide)
      | some X' =>
        have hX := hw k0 X hk0 e
        have hY := hw k1 X' hk1 e'
        show zgd _ (if X.1 = X'.1 ∧ X'.2.2.1 = 1 ∧ X'.2.1 = X.2.1 then _ else _)
        split
        · rename_i h
          cases eq : zfS (zfr0 X) with
          | none => exact zgd_e hw (by decide)
          | some q =>
            show zgd _ (match zsol X X' q with
              | none => _
              | some none => _
              | some (some V) => _)
            cases es : zsol X X' q with
            | none => exact zgd_e hw (by decide)
            | some o =>
              cases o with
              | none => exact zgd_v hw
              | some V =>
                refine zgd_v (zSw_up hw ?_)
                obtain ⟨w1, w2, w3, w4, _⟩ := zfS_w hX (t := q.1) (τ := q.2) eq
                have hEY := hY.2.2.1
                rw [← h.1, h.2.1, h.2.2] at hEY
                unfold zsol at es
                split at es
                · cases es
                · rename_i τ' e3
                  split at es
                  · cases es
                  · rename_i V1 e4
                    split at es
                    · cases es
                    · rename_i V2 e5
                      cases es
                      have hτ := ztf_w (h := X.2.1) (d := 1) (h' := X.2.1) (d' := X.2.2.1) hX.1.1 rfl q.2.1 0 _ τ' (fun i _ hi => w1.2.2.2.1 i (by omega)) (zwf_0 (g := zg0) hEY) e3
                      have ok1 := zqs_ok hX.1.1 (fun k => hτ.2.1.1 k 0) (fun k => w1.2.1.1 k k) w4 _ _ _ V1 e4 (fun _ => zok_0 hX.1.1)
                      have z1 := zqs_z _ _ _ V1 e4 (fun _ _ => rfl)
                      have ok2 := zvb_ok hX.1.1 q.2.1 V1 V w1.2.2.2.1 e5 ok1
                      have z2 := zvb_z q.2.1 V1 V w1.2.2.2.1 e5 (fun k hk => z1 k (by omega))
                      exact ⟨⟨hX.1.1, hX.1.2.2.2.1, hX.1.2.2.2.2, (show 1 ≤ 1 by decide), (show 1 ≤ 4 by decide)⟩, zwf_0 (zvm_w hX.1.1 ok2 z2)⟩
        · exact zgd_e hw (by decide)
theorem g_kern {S : zSs} {a0 a1 : Int32} (hw : zSw S) : zgd [0, 1, 3] (zc_kern S a0 a1) := by
  unfold zc_kern
  split
  · exact zgd_e hw (by decide)
  · rename_i c
    obtain ⟨k0, hk0, rfl⟩ := zslot_k (fun h => c (Or.inl h))
    rw [znn_o (by omega)]
    cases e : S k0 with
    | none => exact zgd_e hw (by decide)
    | some X =>
      have hX := hw k0 X hk0 e
      show zgd _ (match zfS (zfr0 X) with
        | none => _
        | some q => _)
      cases eq : zfS (zfr0 X) with
      | none => exact zgd_e hw (by decide)
      | some q =>
        obtain ⟨w1, w2, w3, w4, _⟩ := zfS_w hX (t := q.1) (τ := q.2) eq
        show zgd _ (if q.1 = X.2.2.1 then _ else _)
        split
        · exact zgd_v hw
        · rename_i hne
          split
          · exact zgd_e hw (by decide)
          · rename_i E eE
            have h2 := hX.1.2.2.2.2
            exact zgd_v (zSw_up hw ⟨⟨hX.1.1, hX.1.2.2.2.1, h2, by show 1 ≤ X.2.2.1 - q.1; omega, by show X.2.2.1 - q.1 ≤ 4; omega⟩, zwf_0 (zmb_w hX.1.1 q.2.1 _ E w1.2.2.2.1 (zke_w hX.1.1) eE)⟩)
/-- the calls on texts -/
theorem g_type {X : zXt} {a0 : Int32} (hX : zXw X) : zXw (zt_type X a0).2 ∧ ∀ e, (zt_type X a0).1 = .inr e → e ∈ [2, 1] := by
  unfold zt_type
  split
  · exact ⟨hX, fun e h => by cases h; decide⟩
  · split
    · exact ⟨hX, fun e h => by cases h; decide⟩
    · rename_i h
      exact ⟨⟨by show X.2.1 + 1 ≤ 120; have := hX.1; omega, hX.2⟩, fun e h => by cases h⟩
theorem g_fault {X : zXt} {a0 : Int32} : ∀ e, zt_fault X a0 = .inr e → e ∈ [2] := by
  intro e h
  unfold zt_fault at h
  split at h
  · cases h; decide
  · split at h
    · cases h
    · cases h
theorem g_parse {S : zSs} {X : zXt} {a0 a1 : Int32} (hw : zSw S) (hX : zXw X) : zSw (zt_parse S X a0 a1).2.1 ∧ zXw (zt_parse S X a0 a1).2.2 ∧ ∀ e, (zt_parse S X a0 a1).1 = .inr e → e ∈ [0, 2, 1] := by
  unfold zt_parse
  split
  · exact ⟨hw, hX, fun e h => by cases h; decide⟩
  · split
    · exact ⟨hw, hX, fun e h => by cases h; decide⟩
    · rename_i c
      have hr := zisr_k c
      split
      · exact ⟨hw, hX, fun e h => by cases h; decide⟩
      · rename_i q e
        obtain ⟨hsh, hE⟩ := (zpa_ok (zch_L hX.1) hr).1 q.1 q.2.1 q.2.2 e
        exact ⟨zSw_up hw ⟨hsh, zwf_0 hE⟩, ⟨Nat.zero_le _, hX.2⟩, fun e h => by cases h⟩
theorem g_write {S : zSs} {X : zXt} {a0 : Int32} (hw : zSw S) (hX : zXw X) : zXw (zt_write S X a0).2 ∧ ∀ e, (zt_write S X a0).1 = .inr e → e ∈ [0, 1] := by
  unfold zt_write
  split
  · exact ⟨hX, fun e h => by cases h; decide⟩
  · rename_i c
    obtain ⟨k, hk, rfl⟩ := zslot_k c
    rw [znn_o (by omega)]
    cases e : S k with
    | none => exact ⟨hX, fun e h => by cases h; decide⟩
    | some M =>
      have hM := hw k M hk e
      exact ⟨⟨hX.1, zwX_len hM.1 hM.2.2.1.1⟩, fun e h => by cases h⟩
theorem g_written {X : zXt} {a0 : Int32} : ∀ e, zt_written X a0 = .inr e → e ∈ [0] := by
  intro e h
  unfold zt_written at h
  split at h
  · cases h
  · cases h; decide
