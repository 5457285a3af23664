/-! WHAT THE RINGS KEEP: products commute, units stay in range, steps go back -/
theorem zcs_cm (f b : Nat → Nat) (k : Nat) : zcs f b 8 k = zcs b f 8 k := by
  by_cases hk : k < 15
  · have h : k = 0 ∨ k = 1 ∨ k = 2 ∨ k = 3 ∨ k = 4 ∨ k = 5 ∨ k = 6 ∨ k = 7 ∨ k = 8 ∨ k = 9 ∨ k = 10 ∨ k = 11 ∨ k = 12 ∨ k = 13 ∨ k = 14 := by omega
    have e : ∀ i j, b i * f j = f j * b i := fun i j => Nat.mul_comm _ _
    rcases h with rfl | rfl | rfl | rfl | rfl | rfl | rfl | rfl | rfl | rfl | rfl | rfl | rfl | rfl | rfl <;> simp [zcs, zct, e] <;> omega
  · rw [zcs_zero (fun i _ _ _ => by omega), zcs_zero (fun i _ _ _ => by omega)]
theorem zplP_cm (p a f b : Nat) : zplP p a f b = zplP p a b f := by
  have e : zcC p a f b = zcC p a b f := by
    funext k
    unfold zcC
    rw [zcs_cm]
  unfold zplP
  rw [e]
theorem zplus_cm {r : Nat} (hr : zrg r) {a f b : zE2} : zplus r a f b = zplus r a b f := by
  have c : ∀ x y : Int64, x * y = y * x := Int64.mul_comm
  rcases zrg_c hr with rfl | rfl | hq
  · simp only [zplus]
    rw [c b.1.toInt64]
  · simp only [zplus]
    rw [c b.1.toInt64 f.1.toInt64, c b.2.toInt64 f.2.toInt64, c b.1.toInt64 f.2.toInt64, c b.2.toInt64 f.1.toInt64, Int64.add_assoc, Int64.add_assoc, Int64.add_comm (f.2.toInt64 * b.1.toInt64)]
  · rcases hq with rfl | rfl | rfl | rfl <;> (simp only [zplus]; rw [zplP_cm])
theorem zplP_c {q c a : Nat} (hq : zprm q) (hc : c < q) : zplP q 0 c a = some (zho q (fun k => c * zcf q a k) 8) := by
  have hq7 := zprm_lt hq
  have hC : ∀ k, zcC q 0 c a k = if k < 8 then c * zcf q a k % q else 0 := by
    intro k
    unfold zcC
    rw [zcs_c hq hc, zcf_0]
    by_cases hk : k < 8
    · rw [if_pos hk, if_pos hk, if_pos hk, Nat.add_zero, Nat.mod_mod]
    · rw [if_neg hk, if_neg hk, if_neg hk]; simp
  unfold zplP
  rw [if_neg]
  · congr 1
    refine zho_congr (Nat.le_refl _) (fun k hk => ?_)
    rw [hC k, if_pos hk, Nat.mod_mod]
  · intro h8
    have := zdn_at (F := zcC q 0 c a) (n := 16) (by omega)
    rw [hC, if_neg (by omega)] at this
    exact this rfl
theorem zOfI {v : Int} (h1 : -1000000000 ≤ v) (h2 : v ≤ 1000000000) : (Int32.ofInt v).toInt = v := Int32.toInt_ofInt_of_le (by omega) (by omega)
/-- a unit times an element, and back -/
theorem zplus_u {r : Nat} (hr : zrg r) {u a : zE2} (hu : zun r u) (ha : zok r a) : ∃ v, zplus r (0, 0) u a = some v ∧ zplus r (0, 0) (zinv r u) v = some a := by
  have z0 : Int32.toInt 0 = 0 := rfl
  have z1 : Int32.toInt 1 = 1 := rfl
  have zm : Int32.toInt (-1) = -1 := by decide
  rcases zrg_c hr with rfl | rfl | hq
  · have e := zpl0_i (zok_0 hr) (zun_ok hr hu) ha
    obtain ⟨hu1, hu2⟩ := hu
    have e := e.trans (show Int32.toInt 0 + u.1.toInt * a.1.toInt = u.1.toInt * a.1.toInt by rw [z0, Int.zero_add])
    have ab : -1000000000 ≤ u.1.toInt * a.1.toInt ∧ u.1.toInt * a.1.toInt ≤ 1000000000 := by
      have := ha.1
      have := ha.2.1
      rcases hu1 with h | h <;> rw [h]
      · rw [z1]; omega
      · rw [zm]; omega
    refine ⟨_, zplus_some0 e ab.1 ab.2, ?_⟩
    have hv := zOfI ab.1 ab.2
    have hvo : zok 0 (Int32.ofInt (u.1.toInt * a.1.toInt), 0) := ⟨by rw [hv]; exact ab.1, by rw [hv]; exact ab.2, rfl⟩
    have e2 := zpl0_i (zok_0 hr) (zun_ok hr (show zun 0 (zinv 0 u) from ⟨hu1, hu2⟩)) hvo
    have e2 := e2.trans (show Int32.toInt 0 + u.1.toInt * (Int32.ofInt (u.1.toInt * a.1.toInt)).toInt = a.1.toInt by
      rw [z0, hv]
      rcases hu1 with h | h <;> rw [h]
      · rw [z1]; omega
      · rw [zm]; omega)
    rw [zplus_some0 e2 ha.1 ha.2.1]
    congr 1
    exact Prod.ext (by show Int32.ofInt a.1.toInt = a.1; exact Int32.ofInt_toInt a.1) ha.2.2.symm
  · obtain ⟨e1, e2⟩ := zpl1_i (zok_0 hr) (zun_ok hr hu) ha
    obtain ⟨a1, a2, a3, a4⟩ := ha
    have key : ∃ x y : Int, -30000 ≤ x ∧ x ≤ 30000 ∧ -30000 ≤ y ∧ y ≤ 30000 ∧ Int32.toInt 0 + u.1.toInt * a.1.toInt - u.2.toInt * a.2.toInt = x ∧ Int32.toInt 0 + u.1.toInt * a.2.toInt + u.2.toInt * a.1.toInt = y ∧ zun 1 (zinv 1 u) ∧ Int32.toInt 0 + (zinv 1 u).1.toInt * x - (zinv 1 u).2.toInt * y = a.1.toInt ∧ Int32.toInt 0 + (zinv 1 u).1.toInt * y + (zinv 1 u).2.toInt * x = a.2.toInt := by
      obtain ⟨u1, u2⟩ := u
      have zmm : Int32.toInt (-(-1)) = 1 := by decide
      have zm0 : Int32.toInt (-0) = 0 := by decide
      rcases hu with ⟨h1, h2⟩ | ⟨h2, h1⟩
      · rcases h2 with h2 | h2
        · dsimp only at h1 h2
          subst h1; subst h2
          refine ⟨-a.2.toInt, a.1.toInt, by omega, by omega, by omega, by omega, ?_, ?_, Or.inl ⟨rfl, Or.inr rfl⟩, ?_, ?_⟩
          · simp only [zinv, z0, z1, zm]; omega
          · simp only [zinv, z0, z1, zm]; omega
          · simp only [zinv, z0, z1, zm]; omega
          · simp only [zinv, z0, z1, zm]; omega
        · dsimp only at h1 h2
          subst h1; subst h2
          refine ⟨a.2.toInt, -a.1.toInt, by omega, by omega, by omega, by omega, ?_, ?_, Or.inl ⟨rfl, Or.inl (by decide)⟩, ?_, ?_⟩
          · simp only [zinv, z0, z1, zm, zmm]; omega
          · simp only [zinv, z0, z1, zm, zmm]; omega
          · simp only [zinv, z0, z1, zm, zmm]; omega
          · simp only [zinv, z0, z1, zm, zmm]; omega
      · rcases h1 with h1 | h1
        · dsimp only at h1 h2
          subst h1; subst h2
          refine ⟨a.1.toInt, a.2.toInt, by omega, by omega, by omega, by omega, ?_, ?_, Or.inr ⟨by decide, Or.inl rfl⟩, ?_, ?_⟩
          · simp only [zinv, z0, z1, zm, zm0]; omega
          · simp only [zinv, z0, z1, zm, zm0]; omega
          · simp only [zinv, z0, z1, zm, zm0]; omega
          · simp only [zinv, z0, z1, zm, zm0]; omega
        · dsimp only at h1 h2
          subst h1; subst h2
          refine ⟨-a.1.toInt, -a.2.toInt, by omega, by omega, by omega, by omega, ?_, ?_, Or.inr ⟨by decide, Or.inr rfl⟩, ?_, ?_⟩
          · simp only [zinv, z0, z1, zm, zm0]; omega
          · simp only [zinv, z0, z1, zm, zm0]; omega
          · simp only [zinv, z0, z1, zm, zm0]; omega
          · simp only [zinv, z0, z1, zm, zm0]; omega
    obtain ⟨x, y, x1, x2, y1, y2, ex, ey, hui, fx, fy⟩ := key
    refine ⟨_, zplus_some1 (e1.trans ex) (e2.trans ey) x1 x2 y1 y2, ?_⟩
    have hvx := zOfI (v := x) (by omega) (by omega)
    have hvy := zOfI (v := y) (by omega) (by omega)
    have hvo : zok 1 (Int32.ofInt x, Int32.ofInt y) := ⟨by rw [hvx]; exact x1, by rw [hvx]; exact x2, by rw [hvy]; exact y1, by rw [hvy]; exact y2⟩
    obtain ⟨g1, g2⟩ := zpl1_i (zok_0 hr) (zun_ok hr hui) hvo
    have g1 := g1.trans (show Int32.toInt 0 + (zinv 1 u).1.toInt * (Int32.ofInt x).toInt - (zinv 1 u).2.toInt * (Int32.ofInt y).toInt = a.1.toInt by rw [hvx, hvy]; exact fx)
    have g2 := g2.trans (show Int32.toInt 0 + (zinv 1 u).1.toInt * (Int32.ofInt y).toInt + (zinv 1 u).2.toInt * (Int32.ofInt x).toInt = a.2.toInt by rw [hvx, hvy]; exact fy)
    rw [zplus_some1 g1 g2 a1 a2 a3 a4]
    congr 1
    exact Prod.ext (by show Int32.ofInt a.1.toInt = a.1; exact Int32.ofInt_toInt a.1) (by show Int32.ofInt a.2.toInt = a.2; exact Int32.ofInt_toInt a.2)
  · have hq7 := zprm_lt hq
    obtain ⟨c, c1, c2, rfl⟩ := (zun_p hq).mp hu
    obtain ⟨v, hv, rfl⟩ := (zok_p hq).mp ha
    obtain ⟨i1, i2, i3, _⟩ := zivP_ok hq (show 0 < c by omega) c2
    have hp8 : r < r ^ 8 := by rcases hq with rfl | rfl | rfl | rfl <;> decide
    have hw : zho r (fun k => c * zcf r v k) 8 < r ^ 8 := zho_lt (by omega) _ 8
    rw [zinv_p hq c2]
    refine ⟨(Int32.ofNat (zho r (fun k => c * zcf r v k) 8), 0), ?_, ?_⟩
    · rw [show ((0, 0) : zE2) = (Int32.ofNat 0, 0) from rfl, zplus_p hq (Nat.pow_pos (by omega)) (by omega) hv, zplP_c hq c2]; rfl
    · rw [show ((0, 0) : zE2) = (Int32.ofNat 0, 0) from rfl, zplus_p hq (Nat.pow_pos (by omega)) (by omega) hw, zplP_c hq i2]
      show some (Int32.ofNat _, (0 : Int32)) = _
      congr 3
      refine zcf_ext (p := r) (zho_lt (by omega) _ 8) hv (fun k hk => ?_)
      rw [zcf_zho (by omega) _ hk, zcf_zho (by omega) _ hk, Nat.mul_mod, Nat.mod_mod, ← Nat.mul_mod, ← Nat.mul_assoc, Nat.mul_comm (zivP r c) c, Nat.mul_mod, i3, Nat.one_mul, Nat.mod_mod]
      exact Nat.mod_eq_of_lt (zcf_lt (by omega) v k)
