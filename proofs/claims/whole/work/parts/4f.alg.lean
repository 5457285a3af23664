/-! WHAT THE RINGS KEEP: products commute, units stay in range, steps go back -/
theorem zcs_cm (f b : Nat → Nat) (k : Nat) : zcs f b 8 k = zcs b f 8 k := by
  by_cases hk : k < 15
  · have h : k = 0 ∨ k = 1 ∨ k = 2 ∨ k = 3 ∨ k = 4 ∨ k = 5 ∨ k = 6 ∨ k = 7 ∨ k = 8 ∨ k = 9 ∨ k = 10 ∨ k = 11 ∨ k = 12 ∨ k = 13 ∨ k = 14 := by omega
    have e : ∀ i j, b i * f j = f j * b i := fun i j => Nat.mul_comm _ _
    rcases h with rfl | rfl | rfl | rfl | rfl | rfl | rfl | rfl | rfl | rfl | rfl | rfl | rfl | rfl | rfl <;> simp [zcs, zct, e] <;> omega
  · rw [zcs_zero (fun i _ _ _ => by omega), zcs_zero (fun i _ _ _ => by omega)]
theorem zplP_cm (p a f b : Nat) : zplP p a f b = zplP p a b f := by
  have e : zcC p a f b = zcC p a b f := by
    funext k
    unfold zcC
    rw [zcs_cm]
  unfold zplP
  rw [e]
theorem zplus_cm {r : Nat} (hr : zrg r) {a f b : zE2} : zplus r a f b = zplus r a b f := by
  have c : ∀ x y : Int64, x * y = y * x := Int64.mul_comm
  rcases zrg_c hr with rfl | rfl | hq
  · simp only [zplus]
    rw [c b.1.toInt64]
  · simp only [zplus]
    rw [c b.1.toInt64 f.1.toInt64, c b.2.toInt64 f.2.toInt64, c b.1.toInt64 f.2.toInt64, c b.2.toInt64 f.1.toInt64, Int64.add_assoc, Int64.add_assoc, Int64.add_comm (f.2.toInt64 * b.1.toInt64)]
  · rcases hq with rfl | rfl | rfl | rfl <;> (simp only [zplus]; rw [zplP_cm])
theorem zplP_c {q c a : Nat} (hq : zprm q) (hc : c < q) : zplP q 0 c a = some (zho q (fun k => c * zcf q a k) 8) := by
  have hq7 := zprm_lt hq
  have hC : ∀ k, zcC q 0 c a k = if k < 8 then c * zcf q a k % q else 0 := by
    intro k
    unfold zcC
    rw [zcs_c hq hc, zcf_0]
    by_cases hk : k < 8
    · rw [if_pos hk, if_pos hk, if_pos hk, Nat.add_zero, Nat.mod_mod]
    · rw [if_neg hk, if_neg hk, if_neg hk]; simp
  unfold zplP
  rw [if_neg]
  · congr 1
    refine zho_congr (Nat.le_refl _) (fun k hk => ?_)
    rw [hC k, if_pos hk, Nat.mod_mod]
  · intro h8
    have := zdn_at (F := zcC q 0 c a) (n := 16) (by omega)
    rw [hC, if_neg (by omega)] at this
    exact this rfl
theorem zOfI {v : Int} (h1 : -1000000000 ≤ v) (h2 : v ≤ 1000000000) : (Int32.ofInt v).toInt = v := Int32.toInt_ofInt_of_le (by omega) (by omega)
/-- a unit times an element, and back -/
theorem zplus_u {r : Nat} (hr : zrg r) {u a : zE2} (hu : zun r u) (ha : zok r a) : ∃ v, zplus r (0, 0) u a = some v ∧ zplus r (0, 0) (zinv r u) v = some a := by
  have z0 : Int32.toInt 0 = 0 := rfl
  have z1 : Int32.toInt 1 = 1 := rfl
  have zm : Int32.toInt (-1) = -1 := by decide
  rcases zrg_c hr with rfl | rfl | hq
  · have e := zpl0_i (zok_0 hr) (zun_ok hr hu) ha
    obtain ⟨hu1, hu2⟩ := hu
    have e := e.trans (show Int32.toInt 0 + u.1.toInt * a.1.toInt = u.1.toInt * a.1.toInt by rw [z0, Int.zero_add])
    have ab : -1000000000 ≤ u.1.toInt * a.1.toInt ∧ u.1.toInt * a.1.toInt ≤ 1000000000 := by
      have := ha.1
      have := ha.2.1
      rcases hu1 with h | h <;> rw [h]
      · rw [z1]; omega
      · rw [zm]; omega
    refine ⟨_, zplus_some0 e ab.1 ab.2, ?_⟩
    have hv := zOfI ab.1 ab.2
    have hvo : zok 0 (Int32.ofInt (u.1.toInt * a.1.toInt), 0) := ⟨by rw [hv]; exact ab.1, by rw [hv]; exact ab.2, rfl⟩
    have e2 := zpl0_i (zok_0 hr) (zun_ok hr (show zun 0 (zinv 0 u) from ⟨hu1, hu2⟩)) hvo
    have e2 := e2.trans (show Int32.toInt 0 + u.1.toInt * (Int32.ofInt (u.1.toInt * a.1.toInt)).toInt = a.1.toInt by
      rw [z0, hv]
      rcases hu1 with h | h <;> rw [h]
      · rw [z1]; omega
      · rw [zm]; omega)
    rw [zplus_some0 e2 ha.1 ha.2.1]
    congr 1
    exact Prod.ext (by show Int32.ofInt a.1.toInt = a.1; exact Int32.ofInt_toInt a.1) ha.2.2.symm
  · obtain ⟨e1, e2⟩ := zpl1_i (zok_0 hr) (zun_ok hr hu) ha
    obtain ⟨a1, a2, a3, a4⟩ := ha
    have key : ∃ x y : Int, -30000 ≤ x ∧ x ≤ 30000 ∧ -30000 ≤ y ∧ y ≤ 30000 ∧ Int32.toInt 0 + u.1.toInt * a.1.toInt - u.2.toInt * a.2.toInt = x ∧ Int32.toInt 0 + u.1.toInt * a.2.toInt + u.2.toInt * a.1.toInt = y ∧ zun 1 (zinv 1 u) ∧ Int32.toInt 0 + (zinv 1 u).1.toInt * x - (zinv 1 u).2.toInt * y = a.1.toInt ∧ Int32.toInt 0 + (zinv 1 u).1.toInt * y + (zinv 1 u).2.toInt * x = a.2.toInt := by
      obtain ⟨u1, u2⟩ := u
      have zmm : Int32.toInt (-(-1)) = 1 := by decide
      have zm0 : Int32.toInt (-0) = 0 := by decide
      rcases hu with ⟨h1, h2⟩ | ⟨h2, h1⟩
      · rcases h2 with h2 | h2
        · dsimp only at h1 h2
          subst h1; subst h2
          refine ⟨-a.2.toInt, a.1.toInt, by omega, by omega, by omega, by omega, ?_, ?_, Or.inl ⟨rfl, Or.inr rfl⟩, ?_, ?_⟩
          · simp only [zinv, z0, z1, zm]; omega
          · simp only [zinv, z0, z1, zm]; omega
          · simp only [zinv, z0, z1, zm]; omega
          · simp only [zinv, z0, z1, zm]; omega
        · dsimp only at h1 h2
          subst h1; subst h2
          refine ⟨a.2.toInt, -a.1.toInt, by omega, by omega, by omega, by omega, ?_, ?_, Or.inl ⟨rfl, Or.inl (by decide)⟩, ?_, ?_⟩
          · simp only [zinv, z0, z1, zm, zmm]; omega
          · simp only [zinv, z0, z1, zm, zmm]; omega
          · simp only [zinv, z0, z1, zm, zmm]; omega
          · simp only [zinv, z0, z1, zm, zmm]; omega
      · rcases h1 with h1 | h1
        · dsimp only at h1 h2
          subst h1; subst h2
          refine ⟨a.1.toInt, a.2.toInt, by omega, by omega, by omega, by omega, ?_, ?_, Or.inr ⟨by decide, Or.inl rfl⟩, ?_, ?_⟩
          · simp only [zinv, z0, z1, zm, zm0]; omega
          · simp only [zinv, z0, z1, zm, zm0]; omega
          · simp only [zinv, z0, z1, zm, zm0]; omega
          · simp only [zinv, z0, z1, zm, zm0]; omega
        · dsimp only at h1 h2
          subst h1; subst h2
          refine ⟨-a.1.toInt, -a.2.toInt, by omega, by omega, by omega, by omega, ?_, ?_, Or.inr ⟨by decide, Or.inr rfl⟩, ?_, ?_⟩
          · simp only [zinv, z0, z1, zm, zm0]; omega
          · simp only [zinv, z0, z1, zm, zm0]; omega
          · simp only [zinv, z0, z1, zm, zm0]; omega
          · simp only [zinv, z0, z1, zm, zm0]; omega
    obtain ⟨x, y, x1, x2, y1, y2, ex, ey, hui, fx, fy⟩ := key
    refine ⟨_, zplus_some1 (e1.trans ex) (e2.trans ey) x1 x2 y1 y2, ?_⟩
    have hvx := zOfI (v := x) (by omega) (by omega)
    have hvy := zOfI (v := y) (by omega) (by omega)
    have hvo : zok 1 (Int32.ofInt x, Int32.ofInt y) := ⟨by rw [hvx]; exact x1, by rw [hvx]; exact x2, by rw [hvy]; exact y1, by rw [hvy]; exact y2⟩
    obtain ⟨g1, g2⟩ := zpl1_i (zok_0 hr) (zun_ok hr hui) hvo
    have g1 := g1.trans (show Int32.toInt 0 + (zinv 1 u).1.toInt * (Int32.ofInt x).toInt - (zinv 1 u).2.toInt * (Int32.ofInt y).toInt = a.1.toInt by rw [hvx, hvy]; exact fx)
    have g2 := g2.trans (show Int32.toInt 0 + (zinv 1 u).1.toInt * (Int32.ofInt y).toInt + (zinv 1 u).2.toInt * (Int32.ofInt x).toInt = a.2.toInt by rw [hvx, hvy]; exact fy)
    rw [zplus_some1 g1 g2 a1 a2 a3 a4]
    congr 1
    exact Prod.ext (by show Int32.ofInt a.1.toInt = a.1; exact Int32.ofInt_toInt a.1) (by show Int32.ofInt a.2.toInt = a.2; exact Int32.ofInt_toInt a.2)
  · have hq7 := zprm_lt hq
    obtain ⟨c, c1, c2, rfl⟩ := (zun_p hq).mp hu
    obtain ⟨v, hv, rfl⟩ := (zok_p hq).mp ha
    obtain ⟨i1, i2, i3, _⟩ := zivP_ok hq (show 0 < c by omega) c2
    have hp8 : r < r ^ 8 := by rcases hq with rfl | rfl | rfl | rfl <;> decide
    have hw : zho r (fun k => c * zcf r v k) 8 < r ^ 8 := zho_lt (by omega) _ 8
    rw [zinv_p hq c2]
    refine ⟨(Int32.ofNat (zho r (fun k => c * zcf r v k) 8), 0), ?_, ?_⟩
    · rw [show ((0, 0) : zE2) = (Int32.ofNat 0, 0) from rfl, zplus_p hq (Nat.pow_pos (by omega)) (by omega) hv, zplP_c hq c2]; rfl
    · rw [show ((0, 0) : zE2) = (Int32.ofNat 0, 0) from rfl, zplus_p hq (Nat.pow_pos (by omega)) (by omega) hw, zplP_c hq i2]
      show some (Int32.ofNat _, (0 : Int32)) = _
      congr 3
      refine zcf_ext (p := r) (zho_lt (by omega) _ 8) hv (fun k hk => ?_)
      rw [zcf_zho (by omega) _ hk, zcf_zho (by omega) _ hk, Nat.mul_mod, Nat.mod_mod, ← Nat.mul_mod, ← Nat.mul_assoc, Nat.mul_comm (zivP r c) c, Nat.mul_mod, i3, Nat.one_mul, Nat.mod_mod]
      exact Nat.mod_eq_of_lt (zcf_lt (by omega) v k)
theorem zcs_sum {q : Nat} {f f' b : Nat → Nat} (h : ∀ i, (f' i + f i) % q = 0) (n k : Nat) : (zcs f' b n k + zcs f b n k) % q = 0 := by
  induction n with
  | zero => exact Nat.zero_mod q
  | succ n ih =>
    simp only [zcs, zct]
    by_cases hk : n ≤ k ∧ k < n + 8
    · rw [if_pos hk, if_pos hk, show zcs f' b n k + f' n * b (k - n) + (zcs f b n k + f n * b (k - n)) = (zcs f' b n k + zcs f b n k) + (f' n + f n) * b (k - n) by rw [Nat.add_mul]; omega, Nat.add_mod, ih, Nat.mul_mod, h n, Nat.zero_mul, Nat.zero_mod, Nat.add_zero, Nat.zero_mod]
    · rw [if_neg hk, if_neg hk]
      exact ih
theorem zplP_bk {q a f b v : Nat} (hq : zprm q) (ha : a < q ^ 8) (e : zplP q a f b = some v) : zplP q v (zngP q f) b = some a := by
  have hq7 := zprm_lt hq
  unfold zplP at e
  split at e
  · cases e
  rename_i h8
  cases e
  have hs : ∀ i, i < 8 → (zcf q (zngP q f) i + zcf q f i) % q = 0 := by
    intro i hi
    unfold zngP
    rw [zcf_zho (by omega) _ hi]
    have := zcf_lt (p := q) (by omega) f i
    generalize zcf q f i = x at *
    rcases hq with rfl | rfl | rfl | rfl <;> omega
  have hs2 : ∀ k, (zcs (zcf q (zngP q f)) (zcf q b) 8 k + zcs (zcf q f) (zcf q b) 8 k) % q = 0 := by
    intro k
    have e8 : ∀ g : Nat → Nat, zcs g (zcf q b) 8 k = zcs (fun i => if i < 8 then g i else 0) (zcf q b) 8 k := fun g => by simp [zcs, zct]
    rw [e8, e8 (zcf q f)]
    refine zcs_sum (fun i => ?_) 8 k
    by_cases hi : i < 8
    · simp only [if_pos hi]; exact hs i hi
    · simp only [if_neg hi]; exact Nat.zero_mod q
  have key : ∀ C C' ak, ak < q → (C' + C) % q = 0 → (C' % q + (C % q + ak) % q % q) % q = ak := by
    intro C C' ak h1 h2
    rcases hq with rfl | rfl | rfl | rfl <;> omega
  have key2 : ∀ C C', (C % q + 0) % q = 0 → (C' + C) % q = 0 → (C' % q + 0) % q = 0 := by
    intro C C' h1 h2
    rcases hq with rfl | rfl | rfl | rfl <;> omega
  have lo : ∀ k, k < 8 → zcC q (zho q (zcC q a f b) 8) (zngP q f) b k = zcf q a k := by
    intro k hk
    unfold zcC
    rw [if_pos hk, zcf_zho (by omega) _ hk, if_pos hk]
    exact key _ _ _ (zcf_lt (by omega) a k) (hs2 k)
  have hi : ∀ k, 8 ≤ k → k < 16 → zcC q (zho q (zcC q a f b) 8) (zngP q f) b k = 0 := by
    intro k hk hk2
    have h0 : zcC q a f b k = 0 := zdn_top (n := 16) (by omega) hk2
    unfold zcC at h0 ⊢
    rw [if_neg (by omega)] at h0 ⊢
    exact key2 _ _ h0 (hs2 k)
  unfold zplP
  rw [if_neg]
  · congr 1
    rw [zho_congr (G := zcf q a) (Nat.le_refl _) (fun k hk => by rw [lo k hk])]
    exact zho_id ha
  · intro h9
    have hat := zdn_at (F := zcC q (zho q (zcC q a f b) 8) (zngP q f) b) (n := 16) (by omega)
    have hle := zdn_le (zcC q (zho q (zcC q a f b) 8) (zngP q f) b) 16
    exact hat (hi _ (by omega) (by omega))
theorem zplus_bk {r : Nat} (hr : zrg r) {a f b v : zE2} (ha : zok r a) (hf : zok r f) (hb : zok r b) (e : zplus r a f b = some v) : zplus r v (zneg r f) b = some a := by
  have hv := zok_plus hr ha hf hb e
  rcases zrg_c hr with rfl | rfl | hq
  · have e1 := zpl0_i ha hf hb
    have hnf : zok 0 (zneg 0 f) := zok_neg hr hf
    have e2 := zpl0_i hv hnf hb
    have hv1 : v.1.toInt = a.1.toInt + f.1.toInt * b.1.toInt := by
      simp only [zplus] at e
      cases hz : zin (a.1.toInt64 + f.1.toInt64 * b.1.toInt64) (-1000000000) 1000000000 with
      | false => rw [hz] at e; cases e
      | true =>
        rw [hz] at e
        cases e
        rw [zin_iff, show Int64.toInt (-1000000000) = -1000000000 from rfl, show Int64.toInt 1000000000 = 1000000000 from rfl] at hz
        show (a.1.toInt64 + f.1.toInt64 * b.1.toInt64).toInt32.toInt = _
        rw [zL_32 (by omega) (by omega), e1]
    have hn : (zneg 0 f).1.toInt = -f.1.toInt := zIn (x := f.1) (by have := hf.1; omega)
    rw [hv1, hn] at e2
    have e2 := e2.trans (show a.1.toInt + f.1.toInt * b.1.toInt + -f.1.toInt * b.1.toInt = a.1.toInt by rw [Int.neg_mul]; omega)
    rw [zplus_some0 e2 ha.1 ha.2.1]
    congr 1
    exact Prod.ext (by show Int32.ofInt a.1.toInt = a.1; exact Int32.ofInt_toInt a.1) ha.2.2.symm
  · obtain ⟨e1, e2⟩ := zpl1_i ha hf hb
    have hnf : zok 1 (zneg 1 f) := zok_neg hr hf
    obtain ⟨e3, e4⟩ := zpl1_i hv hnf hb
    have hv1 : v.1.toInt = a.1.toInt + f.1.toInt * b.1.toInt - f.2.toInt * b.2.toInt ∧ v.2.toInt = a.2.toInt + f.1.toInt * b.2.toInt + f.2.toInt * b.1.toInt := by
      simp only [zplus] at e
      cases hz : zin (a.1.toInt64 + f.1.toInt64 * b.1.toInt64 - f.2.toInt64 * b.2.toInt64) (-30000) 30000 && zin (a.2.toInt64 + f.1.toInt64 * b.2.toInt64 + f.2.toInt64 * b.1.toInt64) (-30000) 30000 with
      | false => rw [hz] at e; cases e
      | true =>
        rw [hz] at e
        cases e
        rw [Bool.and_eq_true, zin_iff, zin_iff, show Int64.toInt (-30000) = -30000 from rfl, show Int64.toInt 30000 = 30000 from rfl] at hz
        refine ⟨?_, ?_⟩
        · show (a.1.toInt64 + f.1.toInt64 * b.1.toInt64 - f.2.toInt64 * b.2.toInt64).toInt32.toInt = _
          rw [zL_32 (by omega) (by omega), e1]
        · show (a.2.toInt64 + f.1.toInt64 * b.2.toInt64 + f.2.toInt64 * b.1.toInt64).toInt32.toInt = _
          rw [zL_32 (by omega) (by omega), e2]
    have hn1 : (zneg 1 f).1.toInt = -f.1.toInt := zIn (x := f.1) (by have := hf.1; omega)
    have hn2 : (zneg 1 f).2.toInt = -f.2.toInt := zIn (x := f.2) (by have := hf.2.2.1; omega)
    rw [hv1.1, hn1, hn2] at e3
    rw [hv1.2, hn1, hn2] at e4
    have e3 := e3.trans (show _ = a.1.toInt by rw [Int.neg_mul, Int.neg_mul]; omega)
    have e4 := e4.trans (show _ = a.2.toInt by rw [Int.neg_mul, Int.neg_mul]; omega)
    rw [zplus_some1 e3 e4 ha.1 ha.2.1 ha.2.2.1 ha.2.2.2]
    congr 1
    exact Prod.ext (by show Int32.ofInt a.1.toInt = a.1; exact Int32.ofInt_toInt a.1) (by show Int32.ofInt a.2.toInt = a.2; exact Int32.ofInt_toInt a.2)
  · have hq7 := zprm_lt hq
    obtain ⟨x, hx, rfl⟩ := (zok_p hq).mp ha
    obtain ⟨g, hg, rfl⟩ := (zok_p hq).mp hf
    obtain ⟨y, hy, rfl⟩ := (zok_p hq).mp hb
    obtain ⟨t, ht, rfl⟩ := (zok_p hq).mp hv
    rw [zplus_p hq hx hg hy] at e
    have hpw := zpw_lt hq
    cases ez : zplP r x g y with
    | none => rw [ez] at e; cases e
    | some t' =>
      rw [ez] at e
      have et : (Int32.ofNat t', (0 : Int32)) = (Int32.ofNat t, 0) := Option.some.inj e
      have ht' : t' < r ^ 8 := by
        unfold zplP at ez
        split at ez
        · cases ez
        · cases ez; exact zho_lt (by omega) _ 8
      have : t' = t := zN_inj (by omega) (by omega) (congrArg Prod.fst et)
      subst this
      have hng : zngP r g < r ^ 8 := zho_lt (by omega) _ 8
      rw [zneg_p hq hg, zplus_p hq ht hng hy, zplP_bk hq hx ez]
      rfl
/-- the step that goes back -/
def zsi (r : Nat) (s : zSt) : zSt := (s.1, s.2.1, s.2.2.1, if s.1 % 3 = 1 then zneg r s.2.2.2 else if s.1 % 3 = 2 then zinv r s.2.2.2 else s.2.2.2)
theorem zap_bk {r h d : Nat} {E E' : zMe} {s : zSt} (hr : zrg r) (hE : zEw r h d E) (hs : zsv r h d s) (e : zap r h d E s = some E') : zap r h d E' (zsi r s) = some E := by
  obtain ⟨h1, rfl⟩ := zap_some e
  obtain ⟨s1, s2, s3, s4, s5, s6⟩ := hs
  have kc : zkc (zsi r s) = zkc s := rfl
  have at1 : ∀ q, q < zplc h d (zkc s) → zap1 r (zapE r (zplc h d (zkc s)) E s) (zsi r s) q = some (zlg (zkc s) E s.2.1 q) := by
    intro q hq
    obtain ⟨v, hv⟩ := Option.isSome_iff_exists.mp (h1 q hq)
    have ei : zlg (zkc s) (zapE r (zplc h d (zkc s)) E s) s.2.1 q = v := by rw [zlg_E]; exact zapL_i hq hv
    unfold zap1
    rw [kc]
    show (if s.1 % 3 = 0 then some (zlg (zkc s) (zapE r (zplc h d (zkc s)) E s) s.2.2.1 q) else if s.1 % 3 = 1 then zplus r (zlg (zkc s) (zapE r (zplc h d (zkc s)) E s) s.2.1 q) (zsi r s).2.2.2 (zlg (zkc s) (zapE r (zplc h d (zkc s)) E s) s.2.2.1 q) else zplus r (0, 0) (zsi r s).2.2.2 (zlg (zkc s) (zapE r (zplc h d (zkc s)) E s) s.2.1 q)) = _
    by_cases w0 : s.1 % 3 = 0
    · rw [if_pos w0, zlg_E, zapL_j hq (s3 (by omega)).2 w0]
    · by_cases w1 : s.1 % 3 = 1
      · rw [if_neg w0, if_pos w1, ei, zlg_E, zapL_o (s3 (by omega)).2 (Or.inl w0)]
        unfold zap1 at hv
        rw [if_neg w0, if_pos w1] at hv
        rw [show (zsi r s).2.2.2 = zneg r s.2.2.2 by show (if s.1 % 3 = 1 then _ else _) = _; rw [if_pos w1]]
        exact zplus_bk hr (zlg_ok hE _ _ _) s5 (zlg_ok hE _ _ _) hv
      · have w2 : s.1 % 3 = 2 := by omega
        rw [if_neg w0, if_neg w1, ei]
        unfold zap1 at hv
        rw [if_neg w0, if_neg w1] at hv
        rw [show (zsi r s).2.2.2 = zinv r s.2.2.2 by show (if s.1 % 3 = 1 then _ else _) = _; rw [if_neg w1, if_pos w2]]
        obtain ⟨v', e1, e2⟩ := zplus_u hr (s4 w2).2 (zlg_ok hE (zkc s) s.2.1 q)
        rw [hv] at e1
        cases e1
        exact e2
  unfold zap
  rw [kc, if_pos (fun k hk => by rw [at1 k hk]; rfl)]
  congr 1
  have all : ∀ l q, zapL r (zplc h d (zkc s)) (zapE r (zplc h d (zkc s)) E s) (zsi r s) l q = zlg (zkc s) E l q := by
    intro l q
    by_cases hq : q < zplc h d (zkc s)
    · unfold zapL
      rw [if_pos hq, kc]
      show (if l = s.2.1 then _ else if s.1 % 3 = 0 ∧ l = s.2.2.1 then _ else _) = _
      by_cases hl : l = s.2.1
      · rw [if_pos hl, at1 q hq, hl]; rfl
      · rw [if_neg hl]
        by_cases hj : s.1 % 3 = 0 ∧ l = s.2.2.1
        · rw [if_pos hj]
          show zlg (zkc s) (zapE r (zplc h d (zkc s)) E s) s.2.1 q = _
          rw [zlg_E, hj.2]
          refine zapL_i hq ?_
          unfold zap1
          rw [if_pos hj.1]
        · rw [if_neg hj, zlg_E, zapL_o hl (by omega)]
    · rw [zapL_ge hq, kc, zlg_E, zapL_ge hq]
  clear at1
  generalize zapE r (zplc h d (zkc s)) E s = E2 at all ⊢
  funext a c
  unfold zapE
  rw [kc]
  cases hc : zkc s with
  | false =>
    have := all a c
    rw [hc] at this
    exact this
  | true =>
    have := all c a
    rw [hc] at this
    exact this
theorem zun_inv {r : Nat} {u : zE2} (hr : zrg r) (hu : zun r u) : zun r (zinv r u) := by
  rcases zrg_c hr with rfl | rfl | hq
  · exact hu
  · rcases hu with ⟨h1, h2⟩ | ⟨h2, h1⟩
    · refine Or.inl ⟨h1, ?_⟩
      show -u.2 = 1 ∨ -u.2 = -1
      rcases h2 with h | h
      · right; rw [h]
      · left; rw [h]; decide
    · refine Or.inr ⟨?_, h1⟩
      show -u.2 = 0
      rw [h2]; decide
  · obtain ⟨c, c1, c2, rfl⟩ := (zun_p hq).mp hu
    obtain ⟨i1, i2, _⟩ := zivP_ok hq (show 0 < c by omega) c2
    rw [zinv_p hq c2]
    exact (zun_p hq).mpr ⟨_, i1, i2, rfl⟩
theorem zsi_v {r h d : Nat} {s : zSt} (hr : zrg r) (hs : zsv r h d s) : zsv r h d (zsi r s) := by
  obtain ⟨s1, s2, s3, s4, s5, s6⟩ := hs
  have key : zok r (zsi r s).2.2.2 ∧ (s.1 % 3 = 2 → zun r (zsi r s).2.2.2) := by
    show zok r (if s.1 % 3 = 1 then _ else _) ∧ (s.1 % 3 = 2 → zun r (if s.1 % 3 = 1 then _ else _))
    by_cases w1 : s.1 % 3 = 1
    · rw [if_pos w1]; exact ⟨zok_neg hr s5, fun h => by omega⟩
    · rw [if_neg w1]
      by_cases w2 : s.1 % 3 = 2
      · rw [if_pos w2]
        have := zun_inv hr (s4 w2).2
        exact ⟨zun_ok hr this, fun _ => this⟩
      · rw [if_neg w2]; exact ⟨s5, fun h => absurd h w2⟩
  refine ⟨s1, s2, s3, fun w2 => ⟨(s4 w2).1, key.2 w2⟩, key.1, fun w0 => ?_⟩
  show (if s.1 % 3 = 1 then _ else _) = _
  rw [if_neg (by have : s.1 % 3 = 0 := w0; omega), if_neg (by have : s.1 % 3 = 0 := w0; omega)]
  exact s6 w0
/-- takeBack -/
theorem s43 {P : zPt} {T : Nat → zX} {Y : zYt} {I : zIt} {A : zAt} {w : Nat → Int64} {p : Nat × Nat} {Q : zR → zH → Prop} {i r h d n : Nat} {O F E' : zMe} {g : Nat → zSt} (hi : i < 6) (hsh : zsh r h d) (hX : zCX (T i) r h d O (n + 1, E', g)) (hw : zwf r h d O (n + 1, E', g)) (hF : zrp r h d O g n = some F)
    (H : ∀ P' T', zTo i T T' → zCX (T' i) r h d O (n, F, g) → Q (.inl none) (zh (P', T', Y) I A w)) : zT zm_43 [.ref (21 + 8 * i)] p (zh (P, T, Y) I A w) Q := by
  have hXb := zCX_b hsh hw hX
  obtain ⟨x1, x2, x3, x4, x5⟩ := hX
  obtain ⟨w1, w2, w3, w4, w5⟩ := hw
  have w1' : n + 1 ≤ 200 := w1
  have x2' : (T i).2.2.2.1 = n + 1 := x2
  have hs := w4 n (Nat.lt_succ_self n)
  obtain ⟨g1, g2, g3, g4⟩ := x5 n (Nat.lt_succ_self n)
  have h6 := hs.1
  have hFw : zEw r h d F := zrp_w hsh.1 w3 (fun k hk => w4 k (Nat.lt_succ_of_lt hk)) hF
  have hap : zap r h d F (g n) = some E' := by
    have := w5
    simp only [zrp, hF] at this
    exact this
  have hbk := zap_bk hsh.1 hFw hs hap
  have hsi := zsi_v hsh.1 hs
  have fin : ∀ P1, zT zm_40 [.ref (21 + 8 * i), .int (Int32.ofNat (g n).1), .int (Int32.ofNat (g n).2.1), .int (zsj (g n)), .long (zen (zsi r (g n)).2.2.2)] p (zh (P1, va_up T i ((T i).1, (T i).2.1, (T i).2.2.1, n, (T i).2.2.2.2.1, (T i).2.2.2.2.2.1, (T i).2.2.2.2.2.2.1, (T i).2.2.2.2.2.2.2.1, (T i).2.2.2.2.2.2.2.2.1, (T i).2.2.2.2.2.2.2.2.2.1, (T i).2.2.2.2.2.2.2.2.2.2), Y) I A w) (zK zm_43 103 [none, none, none, none] [] p Q) := by
    intro P1
    refine s40 (s := zsi r (g n)) (E := E') hi hsh ?_ ?_ ?_ w2 hsi (fun hj => ?_) (fun E2 eE P' T' e' l' f1 f2 f3 => b43_103 (H P' T' ?_ ?_)) (fun en => ?_)
    · rw [va_up_self]
      exact ⟨hXb.1, hXb.2.1, by show n ≤ 200; omega⟩
    · rw [va_up_self]; exact x1
    · rw [va_up_self]; exact x3
    · unfold zsj
      rw [if_neg (show ¬ (g n).1 % 3 = 2 from hj)]; rfl
    · intro k hk
      rw [f1 k hk, va_up_ne _ _ hk]
    · rw [hbk] at eE
      cases eE
      rw [f2, va_up_self]
      exact ⟨x1, rfl, f3, x4, fun k hk => x5 k (by have : k < n := hk; show k < n + 1; omega)⟩
    · rw [hbk] at en; cases en
  rw [show (T i).2.2.2.2.2.2.2.1 = (T i).2.2.2.2.2.2.2.1 from rfl] at g1
  have m3 : ∀ k, k < 6 → (Int32.ofNat k - Int32.ofNat k / 3 * 3 = 1 ↔ k % 3 = 1) ∧ (Int32.ofNat k - Int32.ofNat k / 3 * 3 = 2 ↔ k % 3 = 2) := by
    intro k hk
    have : k = 0 ∨ k = 1 ∨ k = 2 ∨ k = 3 ∨ k = 4 ∨ k = 5 := by omega
    rcases this with rfl | rfl | rfl | rfl | rfl | rfl <;> decide
  obtain ⟨m1, m2⟩ := m3 (g n).1 h6
  refine b43 hi ?_
  rw [x2', Nat.add_sub_cancel, g1, g2, g3, g4]
  refine ⟨by omega, fun _ => ⟨by omega, by omega, fun n1 => ⟨fun n2 => ?_, fun n2 => ?_⟩, fun n1 => ?_⟩, fun h => (by omega)⟩
  · have := fin P
    rw [show (zsi r (g n)).2.2.2 = (g n).2.2.2 by show (if (g n).1 % 3 = 1 then _ else _) = _; rw [if_neg (fun h => n1 (m1.mpr h)), if_neg (fun h => n2 (m2.mpr h))]] at this
    exact this
  · have k2 := m2.mp n2
    rw [x1.1]
    refine c_inv hsh.1 (hs.2.2.2.1 k2).2 (b43_70 hi ?_)
    rw [va_up_self]
    refine ⟨by show n < 200; omega, ?_⟩
    have := fin P
    rw [show (zsi r (g n)).2.2.2 = zinv r (g n).2.2.2 by show (if (g n).1 % 3 = 1 then _ else _) = _; rw [if_neg (by omega), if_pos k2], ← g1, ← g2, ← g3, x1.1] at this
    exact this
  · have k1 := m1.mp n1
    rw [x1.1]
    refine c_neg hsh.1 hs.2.2.2.2.1 (fun P' => b43_53 hi ?_)
    rw [va_up_self]
    refine ⟨by show n < 200; omega, ?_⟩
    have := fin P'
    rw [show (zsi r (g n)).2.2.2 = zneg r (g n).2.2.2 by show (if (g n).1 % 3 = 1 then _ else _) = _; rw [if_pos k1], ← g1, ← g2, ← g3, x1.1] at this
    exact this
theorem k_back {P : zPt} {T : Nat → zX} {Y : zYt} {I : zIt} {A : zAt} {w : Nat → Int64} {p : Nat × Nat} {Q : zR → zH → Prop} {S : zSs} {a0 : Int32} (hw : zSw S) (hC : zCS T S) (H : ∀ T' h', zCS T' (zc_back S a0).2 → zCH Y I A w T' h' → Q (zRo (zc_back S a0).1) h') : zT zm_114 [.ref 0, .int a0] p (zh (P, T, Y) I A w) Q := by
  refine b114 ⟨hC.2, fun c k hk ek => ⟨by have := (hC.2 k).2.2; omega, ?_⟩, fun c0 => kfin H (zwith_0 c0) T _ hC ⟨P, rfl⟩, fun c => ?_⟩
  · obtain ⟨X, e⟩ := zfil_k hC hk ek c.2
    have hX := hw k X hk e
    have hx := zCS_x hC hk e
    have ec : (T k).2.2.2.1 = X.2.2.2.2.1 := hx.2.1
    refine ⟨fun h0 => ?_, fun h0 => ?_⟩
    · exact kfin (x := .inr 1) (S' := S) H (by rw [zc_back, zwith_2 c.1 hk ek e, if_pos (by omega)]) T _ hC ⟨P, rfl⟩
    · obtain ⟨r, h, d, O, n, E, g⟩ := X
      obtain ⟨hsh, hwf⟩ := hX
      have ec' : (T k).2.2.2.1 = n := ec
      obtain ⟨j, rfl⟩ : ∃ j, n = j + 1 := ⟨n - 1, by omega⟩
      obtain ⟨F, hF⟩ : ∃ F, zrp r h d O g j = some F := by
        have w5 : zrp r h d O g (j + 1) = some E := hwf.2.2.2.2
        simp only [zrp] at w5
        cases hq : zrp r h d O g j with
        | none => rw [hq] at w5; cases w5
        | some F => exact ⟨F, rfl⟩
      have hwf' : zwf r h d O (j + 1, E, g) := hwf
      have hw1 : j + 1 ≤ 200 := hwf.1
      have hsv : ∀ q, q < j + 1 → zsv r h d (g q) := hwf.2.2.2.1
      have hFw : zEw r h d F := zrp_w hsh.1 hwf.2.2.1 (fun q hq => hsv q (by omega)) hF
      refine s43 (by omega) hsh hx hwf' hF (fun P' T' f1 f2 => b114_25 (by omega) ?_)
      rw [show (T' k).2.2.2.1 = j from f2.2.1]
      refine kfin (x := .inl (Int32.ofNat j)) (S' := zup S k (r, h, d, O, (j, F, g))) H ?_ T' _ (zCS_up hC f1 f2 ⟨hsh, ⟨by show j ≤ 200; omega, hFw, hwf.2.2.1, fun q hq => hsv q (by have : q < j := hq; omega), hF⟩⟩) ⟨P', rfl⟩
      rw [zc_back, zwith_2 c.1 hk ek e]
      show (if j + 1 = 0 then _ else match zrp r h d O g (j + 1 - 1) with | none => _ | some E => _) = _
      rw [if_neg (by omega), Nat.add_sub_cancel, hF, ek, znn_o (by omega)]
  · obtain ⟨k, hk, ek, e⟩ := zfil_n hC hw c.1 c.2
    exact kfin H (zwith_1 c.1 hk ek e) T _ hC ⟨P, rfl⟩
