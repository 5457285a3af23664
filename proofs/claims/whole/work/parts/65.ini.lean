/-! WHAT THE LAW'S FIRST TURNS LEAVE: the heap's picture with everything empty -/
def zo0 : Nat × zL × List Value × zG × zH := zini.getD (0, [], [], (0, 0, 0), zh00)
theorem zo0_e : zini = some zo0 := by
  unfold zo0
  cases h : zini with
  | none => have := zini_1; rw [h] at this; cases this
  | some o => rfl
def zhi : zH := zo0.2.2.2.2
def zaI (c : zC) : Nat → Int32 := match c with
  | .inl (_, _, .inl f) => f
  | _ => fun _ => 0
def zaL (c : zC) : Nat → Int64 := match c with
  | .inl (_, _, .inr (.inl f)) => f
  | _ => fun _ => 0
def zaT (c : zC) (k n : Nat) (t : Bool) : Bool := match c with
  | .inl (k', n', .inl _) => Nat.beq k' k && (Nat.beq n' n && t)
  | .inl (k', n', .inr (.inl _)) => Nat.beq k' k && (Nat.beq n' n && !t)
  | _ => false
theorem zaI_e {c : zC} {k n : Nat} (h : zaT c k n true = true) : c = .inl (k, n, .inl (zaI c)) := by
  unfold zaT at h
  split at h
  · simp only [Bool.and_eq_true] at h
    obtain ⟨h1, h2, -⟩ := h
    cases Nat.eq_of_beq_eq_true h1
    cases Nat.eq_of_beq_eq_true h2
    rfl
  · simp at h
  · cases h
theorem zaL_e {c : zC} {k n : Nat} (h : zaT c k n false = true) : c = .inl (k, n, .inr (.inl (zaL c))) := by
  unfold zaT at h
  split at h
  · simp at h
  · simp only [Bool.and_eq_true] at h
    obtain ⟨h1, h2, -⟩ := h
    cases Nat.eq_of_beq_eq_true h1
    cases Nat.eq_of_beq_eq_true h2
    rfl
  · cases h
def zof (c : zC) (k : Nat) (l : List Value) : Bool := match c with
  | .inr (k', l') => Nat.beq k' k && decide (l' = l)
  | _ => false
theorem zof_e {c : zC} {k : Nat} {l : List Value} (h : zof c k l = true) : c = .inr (k, l) := by
  unfold zof at h
  split at h
  · simp only [Bool.and_eq_true, decide_eq_true_eq] at h
    obtain ⟨h1, rfl⟩ := h
    cases Nat.eq_of_beq_eq_true h1
    rfl
  · cases h
def zfd (c : zC) (j : Nat) : Int32 := match c with
  | .inr (_, l) => (match l[j]? with
    | some (.int x) => x
    | _ => 0)
  | _ => 0
def zaR (c : zC) : Nat → Option Nat := match c with
  | .inl (_, _, .inr (.inr (.inr (.inr f)))) => f
  | _ => fun _ => none
def zaS (c : zC) (k n : Nat) : Bool := match c with
  | .inl (k', n', .inr (.inr (.inr (.inr _)))) => Nat.beq k' k && Nat.beq n' n
  | _ => false
theorem zaR_e {c : zC} {k n : Nat} (h : zaS c k n = true) : c = .inl (k, n, .inr (.inr (.inr (.inr (zaR c))))) := by
  unfold zaS at h
  split at h
  · simp only [Bool.and_eq_true] at h
    obtain ⟨h1, h2⟩ := h
    cases Nat.eq_of_beq_eq_true h1
    cases Nat.eq_of_beq_eq_true h2
    rfl
  · cases h
/-- cells that look alike: an array of references counts within its length only -/
def zce (c c' : zC) : Prop := c = c' ∨ ∃ (k n : Nat) (f f' : Nat → Option Nat), c = .inl (k, n, .inr (.inr (.inr (.inr f)))) ∧ c' = .inl (k, n, .inr (.inr (.inr (.inr f')))) ∧ ∀ j, j < n → f j = f' j
theorem zDy_ext {D : va_G} {cA : Nat → ClassId} {b base : Nat} {al : Bool} {g : zG} {h h' : zH} {H : Heap} (he : ∀ i, i < g.1 → zce (h i) (h' i)) (hd : zDy D cA b base al g h H) : zDy D cA b base al g h' H := by
  refine ⟨fun k q hq => ?_, hd.2⟩
  obtain ⟨hi, rfl⟩ := zw_inv hq
  have h1 := hd.1 k _ (zw_get hi)
  rcases he k hi with h2 | ⟨x, n, f, f', e1, e2, h2⟩
  · rw [← h2]; exact h1
  · rw [e1] at h1
    rw [e2]
    have h3 : H[base + k]? = some (arrV (cA x) n (fun j => va_rf ((f j).map (fun i => base + i)))) := h1
    show H[base + k]? = some (arrV (cA x) n (fun j => va_rf ((f' j).map (fun i => base + i))))
    rw [h3]
    have e3 : (fun j : Fin n => va_rf ((f j.val).map (fun i => base + i))) = (fun j : Fin n => va_rf ((f' j.val).map (fun i => base + i))) := by
      funext j
      rw [h2 j.val j.isLt]
    unfold arrV
    rw [e3]
section ZI
variable (h : zH)
def zT0 (i : Nat) : zX := (0, 0, 0, 0, zaL (h (21 + 8 * i + 1)), zaL (h (21 + 8 * i + 2)), zaL (h (21 + 8 * i + 3)), zaI (h (21 + 8 * i + 4)), zaI (h (21 + 8 * i + 5)), zaI (h (21 + 8 * i + 6)), zaL (h (21 + 8 * i + 7)))
def zY0 : zYt := ((zaI (h 70), 0), (zaI (h 72), 0), (zaL (h 74), (zfd (h 73) 2).toNatClampNeg, zfd (h 73) 3, (zfd (h 73) 4).toNatClampNeg, decide (zfd (h 73) 5 = 1)))
def zK0 : zKt := (fun j => (zaI (h (4 * j + 1)), zaI (h (4 * j + 2)), zaI (h (4 * j + 3))), zT0 h, zY0 h)
def zJ0 : zJt := (0, (zfd (h 75) 14).toNatClampNeg, decide (zfd (h 75) 15 = 1), zfd (h 75) 16, zfd (h 75) 17, (zfd (h 75) 19).toNatClampNeg, (zfd (h 75) 20).toNatClampNeg, 0)
def zI0 : zIt := (zfd (h 75) 1, zfd (h 75) 2, zfd (h 75) 3, decide (zfd (h 75) 4 = 1), zfd (h 75) 8, zfd (h 75) 9, zJ0 h)
def zB0 : zBt := (zaI (h 82), zaI (h 83), zaI (h 84))
def zA0 : zAt := (zaI (h 76), zaI (h 77), zaI (h 78), zaI (h 79), zaI (h 80), zaI (h 81), zB0 h)
def zw0 : Nat → Int64 := zaL (h 85)
def zcO : Bool := zof (h 0) 6 [.ref 2, .ref 20, .ref 69, .ref 71, .ref 73, .ref 45, .ref 53, .ref 61] && (zof (h 1) 1 [.int 0] && (zof (h 3) 0 [.int 1] && (zof (h 69) 5 [.ref 70, .int (Int32.ofNat 0)] && (zof (h 71) 5 [.ref 72, .int (Int32.ofNat 0)] &&
  (zof (h 73) 3 [.ref 69, .ref 74, .int (Int32.ofNat (zY0 h).2.2.2.1), .int (zY0 h).2.2.2.2.1, .int (Int32.ofNat (zY0 h).2.2.2.2.2.1), .int (zbi (zY0 h).2.2.2.2.2.2)] && zof (h 75) 7 (zfl (zI0 h)))))))
def zcF : Bool := (zaS (h 2) 3 6 && (List.range 6).all (fun j => decide (zaR (h 2) j = zrgs j))) && (zaS (h 20) 2 3 && (List.range 3).all (fun j => decide (zaR (h 20) j = zsls j)))
def zcG : Bool := zaT (h 70) 0 120 true && (zaT (h 72) 0 561 true && (zaT (h 74) 1 16 false && (zaT (h 76) 0 5340 true && (zaT (h 77) 0 8 true && (zaT (h 78) 0 8 true && (zaT (h 79) 0 16 true && (zaT (h 80) 0 4 true && (zaT (h 81) 0 4 true && (zaT (h 82) 0 120 true && (zaT (h 83) 0 32 true && (zaT (h 84) 0 600 true && zaT (h 85) 1 1 false)))))))))))
def zcP : Bool := (List.range 4).all (fun j => zof (h (4 * (j + 1))) 4 (zpf (j + 1)) && (zaT (h (4 * (j + 1) + 1)) 0 8 true && (zaT (h (4 * (j + 1) + 2)) 0 8 true && zaT (h (4 * (j + 1) + 3)) 0 8 true)))
def zcT : Bool := (List.range 6).all (fun i => zof (h (21 + 8 * i)) 2 [.ref 1, .int (Int32.ofNat 0), .int (Int32.ofNat 0), .ref (21 + 8 * i + 1), .ref (21 + 8 * i + 2), .ref (21 + 8 * i + 3), .int (Int32.ofNat 0), .ref (21 + 8 * i + 4), .ref (21 + 8 * i + 5), .ref (21 + 8 * i + 6), .ref (21 + 8 * i + 7)] &&
  (zaT (h (21 + 8 * i + 1)) 1 16 false && (zaT (h (21 + 8 * i + 2)) 1 16 false && (zaT (h (21 + 8 * i + 3)) 1 4 false && (zaT (h (21 + 8 * i + 4)) 0 200 true && (zaT (h (21 + 8 * i + 5)) 0 200 true && (zaT (h (21 + 8 * i + 6)) 0 200 true && zaT (h (21 + 8 * i + 7)) 1 200 false)))))))
end ZI
theorem zi_F : ∀ {h : zH}, zcF h = true → zce (h 2) (zh (zK0 h) (zI0 h) (zA0 h) (zw0 h) 2) ∧ zce (h 20) (zh (zK0 h) (zI0 h) (zA0 h) (zw0 h) 20) := by
  intro h hc
  unfold zcF at hc
  simp only [Bool.and_eq_true, List.all_eq_true, List.mem_range, decide_eq_true_eq] at hc
  obtain ⟨⟨h1, h2⟩, h3, h4⟩ := hc
  exact ⟨Or.inr ⟨3, 6, _, zrgs, zaR_e h1, rfl, h2⟩, Or.inr ⟨2, 3, _, zsls, zaR_e h3, rfl, h4⟩⟩
theorem zi_P : ∀ {h : zH}, zcP h = true → ∀ i, 4 ≤ i → i < 20 → h i = zh (zK0 h) (zI0 h) (zA0 h) (zw0 h) i := by
  intro h hc i h1 h2
  unfold zcP at hc
  simp only [List.all_eq_true, List.mem_range, Bool.and_eq_true] at hc
  obtain ⟨j, c, hj, hc4, rfl⟩ : ∃ j c, j < 4 ∧ c < 4 ∧ i = 4 * (j + 1) + c := ⟨i / 4 - 1, i % 4, by omega, by omega, by omega⟩
  obtain ⟨k0, k1, k2, k3⟩ := hc j hj
  rw [show zh (zK0 h) (zI0 h) (zA0 h) (zw0 h) (4 * (j + 1) + c) = zpc (j + 1) ((zK0 h).1 (j + 1)) c from zh_P (by omega) (by omega) hc4]
  have hc' : c = 0 ∨ c = 1 ∨ c = 2 ∨ c = 3 := by omega
  rcases hc' with rfl | rfl | rfl | rfl
  · exact zof_e k0
  · exact zaI_e k1
  · exact zaI_e k2
  · exact zaI_e k3
theorem zi_T : ∀ {h : zH}, zcT h = true → ∀ i, 21 ≤ i → i < 69 → h i = zh (zK0 h) (zI0 h) (zA0 h) (zw0 h) i := by
  intro h hc i h1 h2
  unfold zcT at hc
  simp only [List.all_eq_true, List.mem_range, Bool.and_eq_true] at hc
  obtain ⟨j, c, hj, hc8, rfl⟩ : ∃ j c, j < 6 ∧ c < 8 ∧ i = 21 + 8 * j + c := ⟨(i - 21) / 8, (i - 21) % 8, by omega, by omega, by omega⟩
  obtain ⟨k0, k1, k2, k3, k4, k5, k6, k7⟩ := hc j hj
  rw [show zh (zK0 h) (zI0 h) (zA0 h) (zw0 h) (21 + 8 * j + c) = zxc j (zT0 h j) c from zh_T hj hc8]
  have hc' : c = 0 ∨ c = 1 ∨ c = 2 ∨ c = 3 ∨ c = 4 ∨ c = 5 ∨ c = 6 ∨ c = 7 := by omega
  rcases hc' with rfl | rfl | rfl | rfl | rfl | rfl | rfl | rfl
  · exact zof_e k0
  · exact zaL_e k1
  · exact zaL_e k2
  · exact zaL_e k3
  · exact zaI_e k4
  · exact zaI_e k5
  · exact zaI_e k6
  · exact zaL_e k7
theorem zi_all {h : zH} (cE : zcO h = true) (cF : zcF h = true) (cG : zcG h = true) (cP : zcP h = true) (cT : zcT h = true) : ∀ i, i < 86 → zce (h i) (zh (zK0 h) (zI0 h) (zA0 h) (zw0 h) i) := by
  intro i hi
  unfold zcO at cE
  unfold zcG at cG
  simp only [Bool.and_eq_true] at cE cG
  obtain ⟨e0, e1, e3, e69, e71, e73, e75⟩ := cE
  obtain ⟨a70, a72, a74, a76, a77, a78, a79, a80, a81, a82, a83, a84, a85⟩ := cG
  by_cases h4 : i < 4
  · have : i = 0 ∨ i = 1 ∨ i = 2 ∨ i = 3 := by omega
    rcases this with rfl | rfl | rfl | rfl
    · exact Or.inl (zof_e e0)
    · exact Or.inl (zof_e e1)
    · exact (zi_F cF).1
    · exact Or.inl (zof_e e3)
  · by_cases h20 : i < 20
    · exact Or.inl (zi_P cP i (by omega) h20)
    · by_cases h21 : i = 20
      · subst h21; exact (zi_F cF).2
      · by_cases h69 : i < 69
        · exact Or.inl (zi_T cT i (by omega) h69)
        · have : i = 69 ∨ i = 70 ∨ i = 71 ∨ i = 72 ∨ i = 73 ∨ i = 74 ∨ i = 75 ∨ i = 76 ∨ i = 77 ∨ i = 78 ∨ i = 79 ∨ i = 80 ∨ i = 81 ∨ i = 82 ∨ i = 83 ∨ i = 84 ∨ i = 85 := by omega
          rcases this with rfl | rfl | rfl | rfl | rfl | rfl | rfl | rfl | rfl | rfl | rfl | rfl | rfl | rfl | rfl | rfl | rfl
          · exact Or.inl (zof_e e69)
          · exact Or.inl (zaI_e a70)
          · exact Or.inl (zof_e e71)
          · exact Or.inl (zaI_e a72)
          · exact Or.inl (zof_e e73)
          · exact Or.inl (zaL_e a74)
          · exact Or.inl (zof_e e75)
          · exact Or.inl (zaI_e a76)
          · exact Or.inl (zaI_e a77)
          · exact Or.inl (zaI_e a78)
          · exact Or.inl (zaI_e a79)
          · exact Or.inl (zaI_e a80)
          · exact Or.inl (zaI_e a81)
          · exact Or.inl (zaI_e a82)
          · exact Or.inl (zaI_e a83)
          · exact Or.inl (zaI_e a84)
          · exact Or.inl (zaL_e a85)
theorem zi_pc : zo0.1 = 23 := by decide +kernel
theorem zi_g1 : zo0.2.2.2.1.1 = 86 := by decide +kernel
theorem zi_g2 : zo0.2.2.2.1.2.1 = 86 := by decide +kernel
theorem zi_g3 : zo0.2.2.2.1.2.2 ≤ 100000 := by decide +kernel
theorem zi_st : zo0.2.2.1 = [] := by decide +kernel
theorem zi_L : zo0.2.1 = [some (.retAddr 0), some (.ref 0), some (.ref 75), some (.ref 85), some (.int (Int32.ofNat 0)), none, none, none] := by decide +kernel
theorem zi_cE : zcO zhi = true := by decide +kernel
theorem zi_cF : zcF zhi = true := by decide +kernel
theorem zi_cG : zcG zhi = true := by decide +kernel
theorem zi_cP : zcP zhi = true := by decide +kernel
theorem zi_cT : zcT zhi = true := by decide +kernel
theorem zi_m : zaI (zhi 76) 0 = -1 ∧ zaI (zhi 76) 1068 = -1 ∧ zaI (zhi 76) 2136 = -1 := by decide +kernel
def zS0 : zSs := fun _ => none
def zX0 : zXt := (fun _ => 0, 0, [])
theorem zS0_w : zSw zS0 := fun _ _ _ e => nomatch e
theorem zX0_w : zXw zX0 := ⟨Nat.zero_le _, Nat.zero_le _⟩
theorem zi_CA {h : zH} : zCA zS0 zX0 (zK0 h) := ⟨_, _, _, rfl, ⟨fun _ _ => ⟨rfl, rfl, rfl⟩, fun _ => ⟨Nat.zero_le _, Nat.zero_le _, Nat.zero_le _⟩⟩, rfl, fun k hk => absurd hk (Nat.not_lt_zero k), rfl, fun k hk => absurd hk (Nat.not_lt_zero k)⟩
theorem zi_RA {h : zH} (h0 : zaI (h 76) 0 = -1) (h1 : zaI (h 76) 1068 = -1) (h2 : zaI (h 76) 2136 = -1) : zRA zS0 zX0 (zfd (h 75) 1) (zI0 h) (zA0 h) := by
  refine ⟨_, _, _, _, _, _, _, _, _, _, _, _, _, rfl, rfl, fun a ha => ?_, rfl, fun k hk => absurd hk (Nat.not_lt_zero k), rfl, fun k hk => absurd hk (Nat.not_lt_zero k)⟩
  have : a = 0 ∨ a = 1 ∨ a = 2 := by omega
  rcases this with rfl | rfl | rfl
  · exact h0
  · exact h1
  · exact h2
