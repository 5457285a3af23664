/-! THE LAW'S LOOP -/
theorem zV_mono {sc : Option (Nat × (Nat → Int32))} {M : zM} {pc : Nat} {L : zL} {st : List Value} {p : Nat × Nat} {h : zH} {Q Q' : Option Value → Nat × Nat → zH → Prop} (w : zV sc M pc L st p h Q) (hq : ∀ v p' h', Q v p' h' → Q' v p' h') : zV sc M pc L st p h Q' := by
  obtain ⟨f, v, p', h', e', q⟩ := w
  exact ⟨f, v, p', h', e', hq v p' h' q⟩
theorem zV_sw {sc : Option (Nat × (Nat → Int32))} {M : zM} {pc : Nat} {L : zL} {t : List Value} {p : Nat × Nat} {h : zH} {Q : Option Value → Nat × Nat → zH → Prop} {d lo hi off : Int} {offs : Array Int} {x : Int32} {n : Nat} (h1 : zlk M.2.2.2.2.2.2.1 pc = some (.tableswitch d lo hi offs)) (h2 : ztsw d lo hi offs x = some off) (h3 : ztgt pc off = some n) (w : zV sc M n L t p h Q) : zV sc M pc L (.int x :: t) p h Q := by
  obtain ⟨f, v, p', h', e', q⟩ := w
  refine ⟨f + 1, v, p', h', ?_, q⟩
  have s1 : zstep sc false M pc (.tableswitch d lo hi offs) L (.int x :: t) (86, p) h = some (.inr (.inl (true, n, n, t))) := by
    simp only [zstep, zstk, zlcl, zbr, h2, h3]
  simp only [zrun, h1, s1]
  exact e'
theorem zcGT {n i : Nat} (hn : n ≤ 3584) (hi : i ≤ 4000) : zcmp .gt (Int32.ofNat i) (Int32.ofNat n - 7) = decide (n < i + 7) := by
  show decide (Int32.ofNat n - 7 < Int32.ofNat i) = _
  rw [decide_eq_decide, Int32.lt_iff_toInt_lt, zN_i (by omega)]
  by_cases h7 : 7 ≤ n
  · rw [show Int32.ofNat n - 7 = Int32.ofNat (n - 7) from zN_sb rfl rfl h7, zN_i (by omega)]; omega
  · have : (Int32.ofNat n - 7).toInt = (n : Int) - 7 := by
      have h : n = 0 ∨ n = 1 ∨ n = 2 ∨ n = 3 ∨ n = 4 ∨ n = 5 ∨ n = 6 := by omega
      rcases h with rfl | rfl | rfl | rfl | rfl | rfl | rfl <;> rfl
    rw [this]; omega
theorem cs_clear {n i : Nat} {sf : Nat → Int32} {S : zSs} {X : zXt} {c0 : Int32} {K : zKt} {I : zIt} {A : zAt} {w : Nat → Int64} {p : Nat × Nat} {Q : Option Value → Nat × Nat → zH → Prop} (hn : i + 7 ≤ n) (hn2 : n ≤ 3584) (hw : zSw S) (hX : zXw X) (hC : zCA S X K) (hR : zRA S X c0 I A) (H : ∀ S' X' K' I' A' w' p' c', zSw S' → zXw X' → zCA S' X' K' → zRA S' X' c' I' A' → p'.1 ≤ p.1 + 1 → p'.2 ≤ p.2 + 6 → zV (some (n, sf)) zm_285 2674 [some (.retAddr 0), some (.ref 0), some (.ref 75), some (.ref 85), some (.int (Int32.ofNat i)), none, none, none] [] p' (zh K' I' A' w') Q) : zV (some (n, sf)) zm_285 2425 [some (.retAddr 0), some (.ref 0), some (.ref 75), some (.ref 85), some (.int (Int32.ofNat i)), none, none, none] [] p (zh K I A w) Q := by
  refine zV_go 2426 [some (.retAddr 0), some (.ref 0), some (.ref 75), some (.ref 85), some (.int (Int32.ofNat i)), none, none, none] [.ref 0] 1 (fun f => rfl) ?_
  refine zV_cl rfl rfl rfl rfl (k_clear hC (fun K1 hC1 => ⟨_, rfl, ?_⟩))
  refine zV_go 2430 [some (.retAddr 0), some (.ref 0), some (.ref 75), some (.ref 85), some (.int (Int32.ofNat i)), none, none, none] [.ref 75, .int (Int32.ofNat X.2.1)] 1 (fun f => rfl) ?_
  refine zV_cl rfl rfl rfl rfl (r_clear hR (fun I1 A1 hR1 => ⟨_, rfl, ?_⟩))
  refine zV_br (zcmp .eq (Int32.ofNat X.2.1) (Int32.ofNat X.2.1)) 2674 2436 [some (.retAddr 0), some (.ref 0), some (.ref 75), some (.ref 85), some (.int (Int32.ofNat i)), none, none, none] [] 1 (fun f => rfl) (fun _ => ?_) (fun h => by rw [zcE] at h; cases h)
  exact H S (X.1, 0, X.2.2) K1 I1 A1 w p 0 hw ⟨Nat.zero_le _, hX.2⟩ hC1 hR1 (Nat.le_succ _) (Nat.le_add_right _ _)
theorem zloop {n : Nat} {sf : Nat → Int32} (hn2 : n ≤ 3584) : ∀ (y i : Nat) (S : zSs) (X : zXt) (c0 : Int32) (K : zKt) (I : zIt) (A : zAt) (w : Nat → Int64) (p : Nat × Nat), n ≤ i + 7 * y → i ≤ n + 7 → zSw S → zXw X → zCA S X K → zRA S X c0 I A →
    zV (some (n, sf)) zm_285 23 [some (.retAddr 0), some (.ref 0), some (.ref 75), some (.ref 85), some (.int (Int32.ofNat i)), none, none, none] [] p (zh K I A w) (fun v p' _ => v = some (.int 1) ∧ p'.1 ≤ p.1 + y ∧ p'.2 ≤ p.2 + 6 * y) := by
  intro y
  induction y with
  | zero =>
    intro i S X c0 K I A w p hi hi2 hw hX hC hR
    refine zV_br (zcmp .gt (Int32.ofNat i) (Int32.ofNat n - 7)) 2680 33 [some (.retAddr 0), some (.ref 0), some (.ref 75), some (.ref 85), some (.int (Int32.ofNat i)), none, none, none] [] 6 (fun f => rfl) (fun _ => ?_) (fun h => ?_)
    · exact zV_ret (some (.int 1)) 2 (fun f => rfl) ⟨rfl, Nat.le_refl _, Nat.le_refl _⟩
    · rw [zcGT hn2 (by omega)] at h
      exact absurd (of_decide_eq_false h) (by omega)
  | succ y ih =>
    intro i S X c0 K I A w p hi hi2 hw hX hC hR
    refine zV_br (zcmp .gt (Int32.ofNat i) (Int32.ofNat n - 7)) 2680 33 [some (.retAddr 0), some (.ref 0), some (.ref 75), some (.ref 85), some (.int (Int32.ofNat i)), none, none, none] [] 6 (fun f => rfl) (fun _ => ?_) (fun h => ?_)
    · exact zV_ret (some (.int 1)) 2 (fun f => rfl) ⟨rfl, Nat.le_add_right _ _, Nat.le_add_right _ _⟩
    rw [zcGT hn2 (by omega)] at h
    have hn : i + 7 ≤ n := by have := of_decide_eq_false h; omega
    have H : ∀ S' X' K' I' A' w' p' c', zSw S' → zXw X' → zCA S' X' K' → zRA S' X' c' I' A' → p'.1 ≤ p.1 + 1 → p'.2 ≤ p.2 + 6 → zV (some (n, sf)) zm_285 2674 [some (.retAddr 0), some (.ref 0), some (.ref 75), some (.ref 85), some (.int (Int32.ofNat i)), none, none, none] [] p' (zh K' I' A' w') (fun v p' _ => v = some (.int 1) ∧ p'.1 ≤ p.1 + (y + 1) ∧ p'.2 ≤ p.2 + 6 * (y + 1)) := by
      intro S' X' K' I' A' w' p' c' hw' hX' hC' hR' b1 b2
      refine zV_inc [some (.retAddr 0), some (.ref 0), some (.ref 75), some (.ref 85), some (.int (Int32.ofNat (i + 7))), none, none, none] rfl rfl (by rw [show Int32.ofNat i + Int32.ofInt 7 = Int32.ofNat (i + 7) from zN_a rfl rfl]; rfl) ?_
      refine zV_go 23 [some (.retAddr 0), some (.ref 0), some (.ref 75), some (.ref 85), some (.int (Int32.ofNat (i + 7))), none, none, none] [] 1 (fun f => rfl) (zV_mono (ih (i + 7) S' X' c' K' I' A' w' p' (by omega) (by omega) hw' hX' hC' hR') (fun v p2 h2 q => ?_))
      obtain ⟨q1, q2, q3⟩ := q
      exact ⟨q1, by omega, by omega⟩
    refine zV_go 36 [some (.retAddr 0), some (.ref 0), some (.ref 75), some (.ref 85), some (.int (Int32.ofNat i)), none, none, none] [.int (Int32.ofNat i), .retAddr 0] 2 (fun f => rfl) ?_
    refine zV_scr (j := i) rfl rfl (by omega) hn2 ?_
    refine zV_go 40 [some (.retAddr 0), some (.ref 0), some (.ref 75), some (.ref 85), some (.int (Int32.ofNat i)), none, none, none] [.int (sf i &&& 63)] 2 (fun f => rfl) ?_
    generalize sf i &&& 63 = x
    by_cases hx : 0 ≤ x.toInt ∧ x.toInt ≤ 32
    · obtain ⟨k, hk, rfl⟩ := zNn0 hx.1
      rw [zN_i hk] at hx
      have hk32 : k < 33 := by omega
      clear hx hk
      rcases Nat.lt_or_ge k 1 with hh | hh
      · have : k = 0 := by omega
        subst this
        exact zV_sw (off := 148) rfl rfl rfl (cs_create hn hn2 hw hX hC hR H)
      rcases Nat.lt_or_ge k 2 with hh | hh
      · have : k = 1 := by omega
        subst this
        exact zV_sw (off := 240) rfl rfl rfl (cs_set hn hn2 hw hX hC hR H)
      rcases Nat.lt_or_ge k 3 with hh | hh
      · have : k = 2 := by omega
        subst this
        exact zV_sw (off := 344) rfl rfl rfl (cs_copy hn hn2 hw hX hC hR H)
      rcases Nat.lt_or_ge k 4 with hh | hh
      · have : k = 3 := by omega
        subst this
        exact zV_sw (off := 412) rfl rfl rfl (cs_mul hn hn2 hw hX hC hR H)
      rcases Nat.lt_or_ge k 5 with hh | hh
      · have : k = 4 := by omega
        subst this
        exact zV_sw (off := 492) rfl rfl rfl (cs_ring hn hn2 hw hX hC hR H)
      rcases Nat.lt_or_ge k 6 with hh | hh
      · have : k = 5 := by omega
        subst this
        exact zV_sw (off := 548) rfl rfl rfl (cs_rows hn hn2 hw hX hC hR H)
      rcases Nat.lt_or_ge k 7 with hh | hh
      · have : k = 6 := by omega
        subst this
        exact zV_sw (off := 604) rfl rfl rfl (cs_columns hn hn2 hw hX hC hR H)
      rcases Nat.lt_or_ge k 8 with hh | hh
      · have : k = 7 := by omega
        subst this
        exact zV_sw (off := 660) rfl rfl rfl (cs_entry hn hn2 hw hX hC hR H)
      rcases Nat.lt_or_ge k 9 with hh | hh
      · have : k = 8 := by omega
        subst this
        exact zV_sw (off := 752) rfl rfl rfl (cs_swap hn hn2 hw hX hC hR H)
      rcases Nat.lt_or_ge k 10 with hh | hh
      · have : k = 9 := by omega
        subst this
        exact zV_sw (off := 860) rfl rfl rfl (cs_add hn hn2 hw hX hC hR H)
      rcases Nat.lt_or_ge k 11 with hh | hh
      · have : k = 10 := by omega
        subst this
        exact zV_sw (off := 994) rfl rfl rfl (cs_scale hn hn2 hw hX hC hR H)
      rcases Nat.lt_or_ge k 12 with hh | hh
      · have : k = 11 := by omega
        subst this
        exact zV_sw (off := 1114) rfl rfl rfl (cs_back hn hn2 hw hX hC hR H)
      rcases Nat.lt_or_ge k 13 with hh | hh
      · have : k = 12 := by omega
        subst this
        exact zV_sw (off := 1170) rfl rfl rfl (cs_trans hn hn2 hw hX hC hR H)
      rcases Nat.lt_or_ge k 14 with hh | hh
      · have : k = 13 := by omega
        subst this
        exact zV_sw (off := 1266) rfl rfl rfl (cs_hermite hn hn2 hw hX hC hR H)
      rcases Nat.lt_or_ge k 15 with hh | hh
      · have : k = 14 := by omega
        subst this
        exact zV_sw (off := 1322) rfl rfl rfl (cs_smith hn hn2 hw hX hC hR H)
      rcases Nat.lt_or_ge k 16 with hh | hh
      · have : k = 15 := by omega
        subst this
        exact zV_sw (off := 1378) rfl rfl rfl (cs_steps hn hn2 hw hX hC hR H)
      rcases Nat.lt_or_ge k 17 with hh | hh
      · have : k = 16 := by omega
        subst this
        exact zV_sw (off := 1434) rfl rfl rfl (cs_step hn hn2 hw hX hC hR H)
      rcases Nat.lt_or_ge k 18 with hh | hh
      · have : k = 17 := by omega
        subst this
        exact zV_sw (off := 1514) rfl rfl rfl (cs_after hn hn2 hw hX hC hR H)
      rcases Nat.lt_or_ge k 19 with hh | hh
      · have : k = 18 := by omega
        subst this
        exact zV_sw (off := 1618) rfl rfl rfl (cs_solve hn hn2 hw hX hC hR H)
      rcases Nat.lt_or_ge k 20 with hh | hh
      · have : k = 19 := by omega
        subst this
        exact zV_sw (off := 1698) rfl rfl rfl (cs_kern hn hn2 hw hX hC hR H)
      rcases Nat.lt_or_ge k 21 with hh | hh
      · have : k = 20 := by omega
        subst this
        exact zV_sw (off := 1766) rfl rfl rfl (cs_inva hn hn2 hw hX hC hR H)
      rcases Nat.lt_or_ge k 22 with hh | hh
      · have : k = 21 := by omega
        subst this
        exact zV_sw (off := 1846) rfl rfl rfl (cs_order hn hn2 hw hX hC hR H)
      rcases Nat.lt_or_ge k 23 with hh | hh
      · have : k = 22 := by omega
        subst this
        exact zV_sw (off := 1901) rfl rfl rfl (cs_det hn hn2 hw hX hC hR H)
      rcases Nat.lt_or_ge k 24 with hh | hh
      · have : k = 23 := by omega
        subst this
        exact zV_sw (off := 1969) rfl rfl rfl (cs_span hn hn2 hw hX hC hR H)
      rcases Nat.lt_or_ge k 25 with hh | hh
      · have : k = 24 := by omega
        subst this
        exact zV_sw (off := 2044) rfl rfl rfl (cs_equi hn hn2 hw hX hC hR H)
      rcases Nat.lt_or_ge k 26 with hh | hh
      · have : k = 25 := by omega
        subst this
        exact zV_sw (off := 2119) rfl rfl rfl (cs_quot hn hn2 hw hX hC hR H)
      rcases Nat.lt_or_ge k 27 with hh | hh
      · have : k = 26 := by omega
        subst this
        exact zV_sw (off := 2211) rfl rfl rfl (cs_gcd hn hn2 hw hX hC hR H)
      rcases Nat.lt_or_ge k 28 with hh | hh
      · have : k = 27 := by omega
        subst this
        exact zV_sw (off := 2329) rfl rfl rfl (cs_type hn hn2 hw hX hC hR H)
      rcases Nat.lt_or_ge k 29 with hh | hh
      · have : k = 28 := by omega
        subst this
        exact zV_sw (off := 2385) rfl rfl rfl (cs_clear hn hn2 hw hX hC hR H)
      rcases Nat.lt_or_ge k 30 with hh | hh
      · have : k = 29 := by omega
        subst this
        exact zV_sw (off := 2398) rfl rfl rfl (cs_fault hn hn2 hw hX hC hR H)
      rcases Nat.lt_or_ge k 31 with hh | hh
      · have : k = 30 := by omega
        subst this
        exact zV_sw (off := 2454) rfl rfl rfl (cs_parse hn hn2 hw hX hC hR H)
      rcases Nat.lt_or_ge k 32 with hh | hh
      · have : k = 31 := by omega
        subst this
        exact zV_sw (off := 2522) rfl rfl rfl (cs_write hn hn2 hw hX hC hR H)
      rcases Nat.lt_or_ge k 33 with hh | hh
      · have : k = 32 := by omega
        subst this
        exact zV_sw (off := 2578) rfl rfl rfl (cs_written hn hn2 hw hX hC hR H)
      omega
    · refine zV_sw (off := 2634) rfl ?_ rfl (H S X K I A w p c0 hw hX hC hR (Nat.le_succ _) (Nat.le_add_right _ _))
      have hd : (decide (x.toInt < 0) || decide (32 < x.toInt)) = true := by
        by_cases h0 : x.toInt < 0
        · rw [decide_eq_true h0]; rfl
        · rw [decide_eq_true (show 32 < x.toInt by omega), Bool.or_true]
      unfold ztsw
      rw [hd]; rfl
