/-! THE CLASS'S RINGS by their numbers -/
theorem zpj_of {r : Nat} (hq : zprm r) : ∃ j, 1 ≤ j ∧ j ≤ 4 ∧ r = zpj j ∧ zra r = 4 * j ∧ ∀ M1 M0 M4 : zM, zrm r M1 M0 M4 = M4 := by
  rcases hq with rfl | rfl | rfl | rfl
  · exact ⟨1, by omega, by omega, rfl, rfl, fun _ _ _ => rfl⟩
  · exact ⟨2, by omega, by omega, rfl, rfl, fun _ _ _ => rfl⟩
  · exact ⟨3, by omega, by omega, rfl, rfl, fun _ _ _ => rfl⟩
  · exact ⟨4, by omega, by omega, rfl, rfl, fun _ _ _ => rfl⟩
theorem c_plus {P : zPt} {T : Nat → zX} {Y : zYt} {I : zIt} {A : zAt} {w : Nat → Int64} {p : Nat × Nat} {Q : zR → zH → Prop} {r : Nat} {a f b : zE2} (hr : zrg r) (ha : zok r a) (hf : zok r f) (hb : zok r b) (H1 : ∀ v, zplus r a f b = some v → ∀ P', Q (.inl (some (.long (zen v)))) (zh (P', T, Y) I A w)) (H2 : zplus r a f b = none → ∀ P', Q (.inr 3) (zh (P', T, Y) I A w)) :
    zT (zrm r zm_17 zm_2 zm_60) [.ref (zra r), .long (zen a), .long (zen f), .long (zen b)] p (zh (P, T, Y) I A w) Q := by
  rcases zrg_c hr with rfl | rfl | hq
  · exact c17 (fun v e => H1 v e P) (fun e => H2 e P)
  · exact c2 (fun v e => H1 v e P) (fun e => H2 e P)
  · obtain ⟨x, hx, rfl⟩ := (zok_p hq).mp ha
    obtain ⟨y, hy, rfl⟩ := (zok_p hq).mp hf
    obtain ⟨z, hz, rfl⟩ := (zok_p hq).mp hb
    obtain ⟨j, h1, h4, rfl, e2, e3⟩ := zpj_of hq
    rw [e3, e2]
    exact c60 h1 h4 hx hy hz H1 H2
theorem c_neg {P : zPt} {T : Nat → zX} {Y : zYt} {I : zIt} {A : zAt} {w : Nat → Int64} {p : Nat × Nat} {Q : zR → zH → Prop} {r : Nat} {a : zE2} (hr : zrg r) (ha : zok r a) (H : ∀ P', Q (.inl (some (.long (zen (zneg r a))))) (zh (P', T, Y) I A w)) : zT (zrm r zm_19 zm_4 zm_64) [.ref (zra r), .long (zen a)] p (zh (P, T, Y) I A w) Q := by
  rcases zrg_c hr with rfl | rfl | hq
  · exact c19 (H P)
  · exact c4 (H P)
  · obtain ⟨x, hx, rfl⟩ := (zok_p hq).mp ha
    obtain ⟨j, h1, h4, rfl, e2, e3⟩ := zpj_of hq
    rw [e3, e2]
    exact c64 h1 h4 hx H
theorem c_quo {P : zPt} {T : Nat → zX} {Y : zYt} {I : zIt} {A : zAt} {w : Nat → Int64} {p : Nat × Nat} {Q : zR → zH → Prop} {r : Nat} {a b : zE2} (hr : zrg r) (ha : zok r a) (hb : zok r b) (hb0 : b ≠ (0, 0)) (H : ∀ P', Q (.inl (some (.long (zen (zquo r a b))))) (zh (P', T, Y) I A w)) : zT (zrm r zm_21 zm_6 zm_67) [.ref (zra r), .long (zen a), .long (zen b)] p (zh (P, T, Y) I A w) Q := by
  rcases zrg_c hr with rfl | rfl | hq
  · exact c21 ha hb hb0 (H P)
  · exact c6 ha hb hb0 (H P)
  · obtain ⟨x, hx, rfl⟩ := (zok_p hq).mp ha
    obtain ⟨y, hy, rfl⟩ := (zok_p hq).mp hb
    obtain ⟨j, h1, h4, rfl, e2, e3⟩ := zpj_of hq
    rw [e3, e2]
    exact c67 h1 h4 hx hy (fun e => hb0 (by rw [e]; rfl)) H
theorem c_size {P : zPt} {T : Nat → zX} {Y : zYt} {I : zIt} {A : zAt} {w : Nat → Int64} {p : Nat × Nat} {Q : zR → zH → Prop} {r : Nat} {a : zE2} (hr : zrg r) (ha : zok r a) (H : ∀ P', Q (.inl (some (.long (zsz r a)))) (zh (P', T, Y) I A w)) : zT (zrm r zm_18 zm_3 zm_63) [.ref (zra r), .long (zen a)] p (zh (P, T, Y) I A w) Q := by
  rcases zrg_c hr with rfl | rfl | hq
  · exact c18 ha (H P)
  · exact c3 (H P)
  · obtain ⟨x, hx, rfl⟩ := (zok_p hq).mp ha
    rw [zsz_p hq hx] at H
    obtain ⟨j, h1, h4, rfl, e2, e3⟩ := zpj_of hq
    rw [e3, e2]
    exact c63 h1 h4 hx H
theorem c_nrm {P : zPt} {T : Nat → zX} {Y : zYt} {I : zIt} {A : zAt} {w : Nat → Int64} {p : Nat × Nat} {Q : zR → zH → Prop} {r : Nat} {a : zE2} (hr : zrg r) (ha : zok r a) (H : ∀ P', Q (.inl (some (.long (zen (znrm r a))))) (zh (P', T, Y) I A w)) : zT (zrm r zm_22 zm_7 zm_68) [.ref (zra r), .long (zen a)] p (zh (P, T, Y) I A w) Q := by
  rcases zrg_c hr with rfl | rfl | hq
  · exact c22 (H P)
  · exact c7 (H P)
  · obtain ⟨x, hx, rfl⟩ := (zok_p hq).mp ha
    obtain ⟨j, h1, h4, rfl, e2, e3⟩ := zpj_of hq
    rw [e3, e2]
    exact c68 h1 h4 hx H
theorem c_inv {P : zPt} {T : Nat → zX} {Y : zYt} {I : zIt} {A : zAt} {w : Nat → Int64} {p : Nat × Nat} {Q : zR → zH → Prop} {r : Nat} {a : zE2} (hr : zrg r) (ha : zun r a) (H : Q (.inl (some (.long (zen (zinv r a))))) (zh (P, T, Y) I A w)) : zT (zrm r zm_20 zm_5 zm_65) [.ref (zra r), .long (zen a)] p (zh (P, T, Y) I A w) Q := by
  rcases zrg_c hr with rfl | rfl | hq
  · exact c20 H
  · exact c5 H
  · obtain ⟨x, hx, hx2, rfl⟩ := (zun_p hq).mp ha
    obtain ⟨j, h1, h4, rfl, e2, e3⟩ := zpj_of hq
    rw [e3, e2]
    exact c65 h1 h4 (by omega) hx2 H
theorem zrsd_0 (a : zE2) : zrsd 0 a = zsz 0 a := by unfold zrsd; rw [if_pos (by omega)]
theorem zrsd_1 (a : zE2) : zrsd 1 a = zsz 1 a := by unfold zrsd; rw [if_pos (by omega)]
theorem c_rsd {P : zPt} {T : Nat → zX} {Y : zYt} {I : zIt} {A : zAt} {w : Nat → Int64} {p : Nat × Nat} {Q : zR → zH → Prop} {r : Nat} {a : zE2} (hr : zrg r) (ha : zok r a) (h0 : a ≠ (0, 0)) (H : ∀ P', Q (.inl (some (.long (zrsd r a)))) (zh (P', T, Y) I A w)) : zT (zrm r zm_23 zm_8 zm_69) [.ref (zra r), .long (zen a)] p (zh (P, T, Y) I A w) Q := by
  rcases zrg_c hr with rfl | rfl | hq
  · rw [zrsd_0] at H
    exact b23 (c18 ha (b23_5 (H P)))
  · rw [zrsd_1] at H
    exact b8 (c3 (b8_5 (H P)))
  · obtain ⟨x, hx, rfl⟩ := (zok_p hq).mp ha
    obtain ⟨j, h1, h4, rfl, e2, e3⟩ := zpj_of hq
    rw [e3, e2]
    exact c69 h1 h4 hx (fun e => h0 (by rw [e]; rfl)) H
theorem c_mul {P : zPt} {T : Nat → zX} {Y : zYt} {I : zIt} {A : zAt} {w : Nat → Int64} {p : Nat × Nat} {Q : zR → zH → Prop} {r : Nat} {a b : zE2} (hr : zrg r) (ha : zok r a) (hb : zok r b) (H1 : ∀ v, zplus r (0, 0) a b = some v → ∀ P', Q (.inl (some (.long (zen v)))) (zh (P', T, Y) I A w)) (H2 : zplus r (0, 0) a b = none → ∀ P', Q (.inr 3) (zh (P', T, Y) I A w)) :
    zT zm_77 [.ref (zra r), .long (zen a), .long (zen b)] p (zh (P, T, Y) I A w) Q := by
  refine b77 ?_
  rw [← zen_0]
  exact c_plus hr (zok_0 hr) ha hb (fun v e P' => b77_7 (H1 v e P')) (fun e P' => H2 e P')
theorem c_mq {P : zPt} {T : Nat → zX} {Y : zYt} {I : zIt} {A : zAt} {w : Nat → Int64} {p : Nat × Nat} {Q : zR → zH → Prop} {r : Nat} {a b : zE2} (hr : zrg r) (ha : zok r a) (hb : zok r b) (hb0 : b ≠ (0, 0)) (H : ∀ P', Q (.inl (some (.long (zen (zneg r (zquo r a b)))))) (zh (P', T, Y) I A w)) : zT zm_80 [.ref (zra r), .long (zen a), .long (zen b)] p (zh (P, T, Y) I A w) Q :=
  b80 (c_quo hr ha hb hb0 (fun _ => b80_7 (c_neg hr (zok_quo hr ha hb hb0) (fun P' => b80_10 (H P')))))
theorem c_rem {P : zPt} {T : Nat → zX} {Y : zYt} {I : zIt} {A : zAt} {w : Nat → Int64} {p : Nat × Nat} {Q : zR → zH → Prop} {r : Nat} {a b : zE2} (hr : zrg r) (ha : zok r a) (hb : zok r b) (hb0 : b ≠ (0, 0)) (H : ∀ v, zrem r a b = some v → ∀ P', Q (.inl (some (.long (zen v)))) (zh (P', T, Y) I A w)) : zT zm_81 [.ref (zra r), .long (zen a), .long (zen b)] p (zh (P, T, Y) I A w) Q := by
  have hq := zok_quo hr ha hb hb0
  refine b81 (c_quo hr ha hb hb0 (fun _ => b81_9 (c_neg hr hq (fun _ => b81_12 (c_plus hr ha (zok_neg hr hq) hb (fun v e P' => b81_16 (H v e P')) (fun e P' => ?_))))))
  obtain ⟨v, hv⟩ := zrem_some hr ha hb hb0
  unfold zrem at hv
  rw [hv] at e
  cases e
/-- what has size 1 -/
theorem zun_sz {r : Nat} (hr : zrg r) {a : zE2} (ha : zok r a) : zsz r a = 1 ↔ zun r a := by
  have o1 : Int64.toInt 1 = 1 := rfl
  rw [← Int64.toInt_inj, o1]
  rcases zrg_c hr with rfl | rfl | hq
  · rw [zsz_0 ha]
    have t : ∀ x : Int32, (x = 1 ↔ x.toInt = 1) ∧ (x = -1 ↔ x.toInt = -1) := fun x => ⟨by rw [← Int32.toInt_inj]; rfl, by rw [← Int32.toInt_inj]; rfl⟩
    show _ ↔ (a.1 = 1 ∨ a.1 = -1) ∧ a.2 = 0
    rw [(t a.1).1, (t a.1).2]
    exact ⟨fun h => ⟨by omega, ha.2.2⟩, fun h => by omega⟩
  · rw [(zsz_1 ha).1]
    have t : ∀ x : Int32, (x = 1 ↔ x.toInt = 1) ∧ (x = -1 ↔ x.toInt = -1) ∧ (x = 0 ↔ x.toInt = 0) := fun x => ⟨by rw [← Int32.toInt_inj]; rfl, by rw [← Int32.toInt_inj]; rfl, by rw [← Int32.toInt_inj]; rfl⟩
    show _ ↔ (a.1 = 0 ∧ (a.2 = 1 ∨ a.2 = -1)) ∨ (a.2 = 0 ∧ (a.1 = 1 ∨ a.1 = -1))
    rw [(t a.1).1, (t a.1).2.1, (t a.1).2.2, (t a.2).1, (t a.2).2.1, (t a.2).2.2]
    unfold zq1n
    generalize a.1.toInt = x
    generalize a.2.toInt = y
    have s1 := zsq x
    have s2 := zsq y
    constructor
    · intro h
      by_cases hx : x = 0
      · left
        subst hx
        have : y.natAbs ≤ 1 := by omega
        have hy : y ≠ 0 := fun e => by rw [e] at h; omega
        omega
      · right
        have h1 : x.natAbs ≥ 1 := by omega
        have : y * y = 0 := by omega
        omega
    · rintro (⟨rfl, rfl | rfl⟩ | ⟨rfl, rfl | rfl⟩) <;> rfl
  · have hq7 := zprm_lt hq
    obtain ⟨v, hv, rfl⟩ := (zok_p hq).mp ha
    have hpw := zpw_lt hq
    rw [zsz_p hq hv, zszP_i, zun_p hq]
    constructor
    · intro h
      have h1 : zdn (zcf r v) 8 = 1 := by omega
      have hlt : v < r := by
        have hz : ∀ k, k < 8 → 1 ≤ k → zcf r v k = 0 := fun k hk hk1 => zdn_top (n := 8) (by omega) hk
        have hc : v % r < r ^ 8 := Nat.lt_of_lt_of_le (Nat.mod_lt v (show 0 < r by omega)) (by calc r = r ^ 1 := (Nat.pow_one r).symm
          _ ≤ r ^ 8 := Nat.pow_le_pow_right (by omega) (by decide))
        have e : v = v % r := zcf_ext hv hc (fun k hk => by
          by_cases hk0 : k = 0
          · subst hk0; unfold zcf; simp
          · rw [hz k hk (by omega)]
            unfold zcf
            rw [Nat.div_eq_of_lt (Nat.lt_of_lt_of_le (Nat.mod_lt v (show 0 < r by omega)) (by calc r = r ^ 1 := (Nat.pow_one r).symm
              _ ≤ r ^ k := Nat.pow_le_pow_right (by omega) (by omega))), Nat.zero_mod])
        rw [e]
        exact Nat.mod_lt v (by omega)
      refine ⟨v, ?_, hlt, rfl⟩
      refine Nat.pos_of_ne_zero (fun e => ?_)
      subst e
      have : zdn (zcf r 0) 8 = zdn (fun _ => 0) 8 := zdn_congr (fun k _ => zcf_0 r k)
      rw [this] at h1
      cases h1
    · rintro ⟨u, hu1, hu2, e⟩
      have e : v = u := zN_inj (by omega) (by omega) (congrArg Prod.fst e)
      subst e
      have hD := zcf_nz (p := r) (by omega) hv (by omega)
      have hD8 := zdn_le (zcf r v) 8
      have hat := zdn_at hD
      have : zdn (zcf r v) 8 = 1 := by
        refine Classical.byContradiction (fun hn => hat ?_)
        unfold zcf
        rw [Nat.div_eq_of_lt (Nat.lt_of_lt_of_le hu2 (by calc r = r ^ 1 := (Nat.pow_one r).symm
          _ ≤ r ^ _ := Nat.pow_le_pow_right (by omega) (show 1 ≤ zdn (zcf r v) 8 - 1 by omega))), Nat.zero_mod]
      omega
theorem c_unit {P : zPt} {T : Nat → zX} {Y : zYt} {I : zIt} {A : zAt} {w : Nat → Int64} {p : Nat × Nat} {Q : zR → zH → Prop} {r : Nat} {a : zE2} (hr : zrg r) (ha : zok r a) (H1 : zun r a → ∀ P', Q (.inl (some (.int 1))) (zh (P', T, Y) I A w)) (H2 : ¬ zun r a → ∀ P', Q (.inl (some (.int 0))) (zh (P', T, Y) I A w)) : zT zm_79 [.ref (zra r), .long (zen a)] p (zh (P, T, Y) I A w) Q :=
  b79 (c_size hr ha (fun P' => b79_5 ⟨fun h => H2 (fun hu => h ((zun_sz hr ha).mpr hu)) P', fun h => H1 ((zun_sz hr ha).mp h) P'⟩))
