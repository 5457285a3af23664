/-! THE LAW'S WRAPPERS; the calls of both sides in one form -/
theorem K_create {S : zSs} {X : zXt} {K : zKt} {I : zIt} {A : zAt} {w : Nat → Int64} {p : Nat × Nat} {a0 a1 a2 a3 : Int32} (hw : zSw S) (h : zCA S X K) : zT zm_94 [.ref 0, .int a0, .int a1, .int a2, .int a3] p (zh K I A w) (zkq (zRo (zc_create S a0 a1 a2 a3).1) (zc_create S a0 a1 a2 a3).2 X I A w) := by
  obtain ⟨P, T, Y, rfl, hC, hY⟩ := h
  exact k_create hw hC (fun T' h' h1 h2 => by obtain ⟨P', rfl⟩ := h2; exact ⟨rfl, _, ⟨P', T', Y, rfl, h1, hY⟩, rfl⟩)
theorem R_create {c0 : Int32} {S : zSs} {X : zXt} {K : zKt} {I : zIt} {A : zAt} {w : Nat → Int64} {p : Nat × Nat} {a0 a1 a2 a3 : Int32} (hw : zSw S) (h : zRA S X c0 I A) : zT zm_139 [.ref 75, .int a0, .int a1, .int a2, .int a3] p (zh K I A w) (zrq (.inl (some (.int (zrv (zc_create S a0 a1 a2 a3).1)))) (zc_create S a0 a1 a2 a3).2 X (zcd [0, 2] (zc_create S a0 a1 a2 a3).1) K w) := by
  obtain ⟨rf, rs, bad, pr, pn, J, m, pa, pb, pc, vf, vs, B, rfl, rfl, hR, hJ⟩ := h
  exact r_create hw hR (fun m' h' h1 h2 => by obtain ⟨rf', rs', bad', pr', pn', pa', pb', pc', vf', vs', rfl⟩ := h2; exact ⟨rfl, _, _, ⟨_, _, _, _, _, _, _, _, _, _, _, _, _, rfl, rfl, h1, hJ⟩, rfl⟩)
theorem w246 {S' : zSs} {X' : zXt} {K : zKt} {I : zIt} {A : zAt} {w : Nat → Int64} {p : Nat × Nat} {Q : Option Value → Nat × Nat → zH → Prop} {x : Int32 ⊕ Nat} {a0 a1 a2 a3 : Int32} (hk : zT zm_94 [.ref 0, .int a0, .int a1, .int a2, .int a3] p (zh K I A w) (zkq (zRo x) S' X' I A w)) (he : ∀ e, x = .inr e → e ∈ [0, 2]) (H : ∀ K', zCA S' X' K' → Q (some (.int (zcd [0, 2] x))) (zpx' p x) (zh K' I A (zow w x))) : zV none zm_246 0 (zent [.ref 0, .int a0, .int a1, .int a2, .int a3, .ref 85] zm_246.2.2.2.2.1) [] p (zh K I A w) Q := by
  change zV none zm_246 0 [some (.ref 0), some (.int a0), some (.int a1), some (.int a2), some (.int a3), some (.ref 85), none] [] p _ Q
  refine zV_go 9 [some (.ref 0), some (.int a0), some (.int a1), some (.int a2), some (.int a3), some (.ref 85), none] [.int a3, .int a2, .int a1, .int a0, .ref 0, .int (0 : Int32), .ref 85] 7 (fun f => rfl) ?_
  refine zV_ch rfl rfl rfl rfl rfl (zT_mono hk (fun r h' q => ?_))
  obtain ⟨rfl, K', hC', rfl⟩ := q
  cases x with
  | inl v =>
    refine Or.inl ⟨_, rfl, ?_⟩
    refine zV_go 13 [some (.ref 0), some (.int a0), some (.int a1), some (.int a2), some (.int a3), some (.ref 85), none] [.long v.toInt64, .int (0 : Int32), .ref 85] 1 (fun f => rfl) ?_
    exact zV_last (n := 1) (j := 0) rfl (by decide) rfl (by decide) zu_85 rfl (by decide) (zV_ret (some (.int 0)) 3 (fun f => rfl) (H K' hC'))
  | inr e =>
    have he := he e rfl
    rcases List.mem_cons.mp he with rfl | he
    · exact Or.inr ⟨_, (19, 6), rfl, rfl, rfl, zV_ret (some (.int 1)) 2 (fun f => rfl) (H K' hC')⟩
    rcases List.mem_cons.mp he with rfl | he
    · exact Or.inr ⟨_, (23, 6), rfl, rfl, rfl, zV_ret (some (.int 2)) 2 (fun f => rfl) (H K' hC')⟩
    cases he
theorem K_set {S : zSs} {X : zXt} {K : zKt} {I : zIt} {A : zAt} {w : Nat → Int64} {p : Nat × Nat} {a0 a1 a2 a3 a4 : Int32} (hw : zSw S) (h : zCA S X K) : zT zm_98 [.ref 0, .int a0, .int a1, .int a2, .int a3, .int a4] p (zh K I A w) (zkq (zRo (zc_set S a0 a1 a2 a3 a4).1) (zc_set S a0 a1 a2 a3 a4).2 X I A w) := by
  obtain ⟨P, T, Y, rfl, hC, hY⟩ := h
  exact k_set hw hC (fun T' h' h1 h2 => by obtain ⟨P', rfl⟩ := h2; exact ⟨rfl, _, ⟨P', T', Y, rfl, h1, hY⟩, rfl⟩)
theorem R_set {c0 : Int32} {S : zSs} {X : zXt} {K : zKt} {I : zIt} {A : zAt} {w : Nat → Int64} {p : Nat × Nat} {a0 a1 a2 a3 a4 : Int32} (hw : zSw S) (h : zRA S X c0 I A) : zT zm_147 [.ref 75, .int a0, .int a1, .int a2, .int a3, .int a4] p (zh K I A w) (zrq (.inl (some (.int (zrv (zc_set S a0 a1 a2 a3 a4).1)))) (zc_set S a0 a1 a2 a3 a4).2 X (zcd [0, 1, 2] (zc_set S a0 a1 a2 a3 a4).1) K w) := by
  obtain ⟨rf, rs, bad, pr, pn, J, m, pa, pb, pc, vf, vs, B, rfl, rfl, hR, hJ⟩ := h
  exact r_set hw hR (fun m' h' h1 h2 => by obtain ⟨rf', rs', bad', pr', pn', pa', pb', pc', vf', vs', rfl⟩ := h2; exact ⟨rfl, _, _, ⟨_, _, _, _, _, _, _, _, _, _, _, _, _, rfl, rfl, h1, hJ⟩, rfl⟩)
theorem w247 {S' : zSs} {X' : zXt} {K : zKt} {I : zIt} {A : zAt} {w : Nat → Int64} {p : Nat × Nat} {Q : Option Value → Nat × Nat → zH → Prop} {x : Int32 ⊕ Nat} {a0 a1 a2 a3 a4 : Int32} (hk : zT zm_98 [.ref 0, .int a0, .int a1, .int a2, .int a3, .int a4] p (zh K I A w) (zkq (zRo x) S' X' I A w)) (he : ∀ e, x = .inr e → e ∈ [0, 1, 2]) (H : ∀ K', zCA S' X' K' → Q (some (.int (zcd [0, 1, 2] x))) (zpx' p x) (zh K' I A (zow w x))) : zV none zm_247 0 (zent [.ref 0, .int a0, .int a1, .int a2, .int a3, .int a4, .ref 85] zm_247.2.2.2.2.1) [] p (zh K I A w) Q := by
  change zV none zm_247 0 [some (.ref 0), some (.int a0), some (.int a1), some (.int a2), some (.int a3), some (.int a4), some (.ref 85), none] [] p _ Q
  refine zV_go 11 [some (.ref 0), some (.int a0), some (.int a1), some (.int a2), some (.int a3), some (.int a4), some (.ref 85), none] [.int a4, .int a3, .int a2, .int a1, .int a0, .ref 0, .int (0 : Int32), .ref 85] 8 (fun f => rfl) ?_
  refine zV_ch rfl rfl rfl rfl rfl (zT_mono hk (fun r h' q => ?_))
  obtain ⟨rfl, K', hC', rfl⟩ := q
  cases x with
  | inl v =>
    refine Or.inl ⟨_, rfl, ?_⟩
    refine zV_go 15 [some (.ref 0), some (.int a0), some (.int a1), some (.int a2), some (.int a3), some (.int a4), some (.ref 85), none] [.long v.toInt64, .int (0 : Int32), .ref 85] 1 (fun f => rfl) ?_
    exact zV_last (n := 1) (j := 0) rfl (by decide) rfl (by decide) zu_85 rfl (by decide) (zV_ret (some (.int 0)) 3 (fun f => rfl) (H K' hC'))
  | inr e =>
    have he := he e rfl
    rcases List.mem_cons.mp he with rfl | he
    · exact Or.inr ⟨_, (21, 7), rfl, rfl, rfl, zV_ret (some (.int 1)) 2 (fun f => rfl) (H K' hC')⟩
    rcases List.mem_cons.mp he with rfl | he
    · exact Or.inr ⟨_, (25, 7), rfl, rfl, rfl, zV_ret (some (.int 2)) 2 (fun f => rfl) (H K' hC')⟩
    rcases List.mem_cons.mp he with rfl | he
    · exact Or.inr ⟨_, (29, 7), rfl, rfl, rfl, zV_ret (some (.int 3)) 2 (fun f => rfl) (H K' hC')⟩
    cases he
theorem K_copy {S : zSs} {X : zXt} {K : zKt} {I : zIt} {A : zAt} {w : Nat → Int64} {p : Nat × Nat} {a0 a1 : Int32} (hw : zSw S) (h : zCA S X K) : zT zm_101 [.ref 0, .int a0, .int a1] p (zh K I A w) (zkq (zRo (zc_copy S a0 a1).1) (zc_copy S a0 a1).2 X I A w) := by
  obtain ⟨P, T, Y, rfl, hC, hY⟩ := h
  exact k_copy hw hC (fun T' h' h1 h2 => by obtain ⟨P', rfl⟩ := h2; exact ⟨rfl, _, ⟨P', T', Y, rfl, h1, hY⟩, rfl⟩)
theorem R_copy {c0 : Int32} {S : zSs} {X : zXt} {K : zKt} {I : zIt} {A : zAt} {w : Nat → Int64} {p : Nat × Nat} {a0 a1 : Int32} (hw : zSw S) (h : zRA S X c0 I A) : zT zm_153 [.ref 75, .int a0, .int a1] p (zh K I A w) (zrq (.inl (some (.int (zrv (zc_copy S a0 a1).1)))) (zc_copy S a0 a1).2 X (zcd [0, 1] (zc_copy S a0 a1).1) K w) := by
  obtain ⟨rf, rs, bad, pr, pn, J, m, pa, pb, pc, vf, vs, B, rfl, rfl, hR, hJ⟩ := h
  exact r_copy hw hR (fun m' h' h1 h2 => by obtain ⟨rf', rs', bad', pr', pn', pa', pb', pc', vf', vs', rfl⟩ := h2; exact ⟨rfl, _, _, ⟨_, _, _, _, _, _, _, _, _, _, _, _, _, rfl, rfl, h1, hJ⟩, rfl⟩)
theorem w248 {S' : zSs} {X' : zXt} {K : zKt} {I : zIt} {A : zAt} {w : Nat → Int64} {p : Nat × Nat} {Q : Option Value → Nat × Nat → zH → Prop} {x : Int32 ⊕ Nat} {a0 a1 : Int32} (hk : zT zm_101 [.ref 0, .int a0, .int a1] p (zh K I A w) (zkq (zRo x) S' X' I A w)) (he : ∀ e, x = .inr e → e ∈ [0, 1]) (H : ∀ K', zCA S' X' K' → Q (some (.int (zcd [0, 1] x))) (zpx' p x) (zh K' I A (zow w x))) : zV none zm_248 0 (zent [.ref 0, .int a0, .int a1, .ref 85] zm_248.2.2.2.2.1) [] p (zh K I A w) Q := by
  change zV none zm_248 0 [some (.ref 0), some (.int a0), some (.int a1), some (.ref 85), none] [] p _ Q
  refine zV_go 5 [some (.ref 0), some (.int a0), some (.int a1), some (.ref 85), none] [.int a1, .int a0, .ref 0, .int (0 : Int32), .ref 85] 5 (fun f => rfl) ?_
  refine zV_ch rfl rfl rfl rfl rfl (zT_mono hk (fun r h' q => ?_))
  obtain ⟨rfl, K', hC', rfl⟩ := q
  cases x with
  | inl v =>
    refine Or.inl ⟨_, rfl, ?_⟩
    refine zV_go 9 [some (.ref 0), some (.int a0), some (.int a1), some (.ref 85), none] [.long v.toInt64, .int (0 : Int32), .ref 85] 1 (fun f => rfl) ?_
    exact zV_last (n := 1) (j := 0) rfl (by decide) rfl (by decide) zu_85 rfl (by decide) (zV_ret (some (.int 0)) 3 (fun f => rfl) (H K' hC'))
  | inr e =>
    have he := he e rfl
    rcases List.mem_cons.mp he with rfl | he
    · exact Or.inr ⟨_, (15, 4), rfl, rfl, rfl, zV_ret (some (.int 1)) 2 (fun f => rfl) (H K' hC')⟩
    rcases List.mem_cons.mp he with rfl | he
    · exact Or.inr ⟨_, (19, 4), rfl, rfl, rfl, zV_ret (some (.int 2)) 2 (fun f => rfl) (H K' hC')⟩
    cases he
theorem K_mul {S : zSs} {X : zXt} {K : zKt} {I : zIt} {A : zAt} {w : Nat → Int64} {p : Nat × Nat} {a0 a1 a2 : Int32} (hw : zSw S) (h : zCA S X K) : zT zm_102 [.ref 0, .int a0, .int a1, .int a2] p (zh K I A w) (zkq (zRo (zc_mul S a0 a1 a2).1) (zc_mul S a0 a1 a2).2 X I A w) := by
  obtain ⟨P, T, Y, rfl, hC, hY⟩ := h
  exact k_mul hw hC (fun T' h' h1 h2 => by obtain ⟨P', rfl⟩ := h2; exact ⟨rfl, _, ⟨P', T', Y, rfl, h1, hY⟩, rfl⟩)
theorem R_mul {c0 : Int32} {S : zSs} {X : zXt} {K : zKt} {I : zIt} {A : zAt} {w : Nat → Int64} {p : Nat × Nat} {a0 a1 a2 : Int32} (hw : zSw S) (h : zRA S X c0 I A) : zT zm_155 [.ref 75, .int a0, .int a1, .int a2] p (zh K I A w) (zrq (.inl (some (.int (zrv (zc_mul S a0 a1 a2).1)))) (zc_mul S a0 a1 a2).2 X (zcd [0, 1, 3] (zc_mul S a0 a1 a2).1) K w) := by
  obtain ⟨rf, rs, bad, pr, pn, J, m, pa, pb, pc, vf, vs, B, rfl, rfl, hR, hJ⟩ := h
  exact r_mul hw hR (fun m' h' h1 h2 => by obtain ⟨rf', rs', bad', pr', pn', pa', pb', pc', vf', vs', rfl⟩ := h2; exact ⟨rfl, _, _, ⟨_, _, _, _, _, _, _, _, _, _, _, _, _, rfl, rfl, h1, hJ⟩, rfl⟩)
theorem w249 {S' : zSs} {X' : zXt} {K : zKt} {I : zIt} {A : zAt} {w : Nat → Int64} {p : Nat × Nat} {Q : Option Value → Nat × Nat → zH → Prop} {x : Int32 ⊕ Nat} {a0 a1 a2 : Int32} (hk : zT zm_102 [.ref 0, .int a0, .int a1, .int a2] p (zh K I A w) (zkq (zRo x) S' X' I A w)) (he : ∀ e, x = .inr e → e ∈ [0, 1, 3]) (H : ∀ K', zCA S' X' K' → Q (some (.int (zcd [0, 1, 3] x))) (zpx' p x) (zh K' I A (zow w x))) : zV none zm_249 0 (zent [.ref 0, .int a0, .int a1, .int a2, .ref 85] zm_249.2.2.2.2.1) [] p (zh K I A w) Q := by
  change zV none zm_249 0 [some (.ref 0), some (.int a0), some (.int a1), some (.int a2), some (.ref 85), none] [] p _ Q
  refine zV_go 7 [some (.ref 0), some (.int a0), some (.int a1), some (.int a2), some (.ref 85), none] [.int a2, .int a1, .int a0, .ref 0, .int (0 : Int32), .ref 85] 6 (fun f => rfl) ?_
  refine zV_ch rfl rfl rfl rfl rfl (zT_mono hk (fun r h' q => ?_))
  obtain ⟨rfl, K', hC', rfl⟩ := q
  cases x with
  | inl v =>
    refine Or.inl ⟨_, rfl, ?_⟩
    refine zV_go 11 [some (.ref 0), some (.int a0), some (.int a1), some (.int a2), some (.ref 85), none] [.long v.toInt64, .int (0 : Int32), .ref 85] 1 (fun f => rfl) ?_
    exact zV_last (n := 1) (j := 0) rfl (by decide) rfl (by decide) zu_85 rfl (by decide) (zV_ret (some (.int 0)) 3 (fun f => rfl) (H K' hC'))
  | inr e =>
    have he := he e rfl
    rcases List.mem_cons.mp he with rfl | he
    · exact Or.inr ⟨_, (17, 5), rfl, rfl, rfl, zV_ret (some (.int 1)) 2 (fun f => rfl) (H K' hC')⟩
    rcases List.mem_cons.mp he with rfl | he
    · exact Or.inr ⟨_, (21, 5), rfl, rfl, rfl, zV_ret (some (.int 2)) 2 (fun f => rfl) (H K' hC')⟩
    rcases List.mem_cons.mp he with rfl | he
    · exact Or.inr ⟨_, (25, 5), rfl, rfl, rfl, zV_ret (some (.int 3)) 2 (fun f => rfl) (H K' hC')⟩
    cases he
theorem K_ring {S : zSs} {X : zXt} {K : zKt} {I : zIt} {A : zAt} {w : Nat → Int64} {p : Nat × Nat} {a0 : Int32} (hw : zSw S) (h : zCA S X K) : zT zm_104 [.ref 0, .int a0] p (zh K I A w) (zkq (zRo (zc_of S a0 (fun X => X.1) (-1)).1) (zc_of S a0 (fun X => X.1) (-1)).2 X I A w) := by
  obtain ⟨P, T, Y, rfl, hC, hY⟩ := h
  exact k_ring hw hC (fun T' h' h1 h2 => by obtain ⟨P', rfl⟩ := h2; exact ⟨rfl, _, ⟨P', T', Y, rfl, h1, hY⟩, rfl⟩)
theorem R_ring {c0 : Int32} {S : zSs} {X : zXt} {K : zKt} {I : zIt} {A : zAt} {w : Nat → Int64} {p : Nat × Nat} {a0 : Int32} (hw : zSw S) (h : zRA S X c0 I A) : zT zm_163 [.ref 75, .int a0] p (zh K I A w) (zrq (.inl (some (.int (zrv (zc_of S a0 (fun X => X.1) (-1)).1)))) (zc_of S a0 (fun X => X.1) (-1)).2 X (zcd [0] (zc_of S a0 (fun X => X.1) (-1)).1) K w) := by
  obtain ⟨rf, rs, bad, pr, pn, J, m, pa, pb, pc, vf, vs, B, rfl, rfl, hR, hJ⟩ := h
  exact r_ring hw hR (fun m' h' h1 h2 => by obtain ⟨rf', rs', bad', pr', pn', pa', pb', pc', vf', vs', rfl⟩ := h2; exact ⟨rfl, _, _, ⟨_, _, _, _, _, _, _, _, _, _, _, _, _, rfl, rfl, h1, hJ⟩, rfl⟩)
theorem w250 {S' : zSs} {X' : zXt} {K : zKt} {I : zIt} {A : zAt} {w : Nat → Int64} {p : Nat × Nat} {Q : Option Value → Nat × Nat → zH → Prop} {x : Int32 ⊕ Nat} {a0 : Int32} (hk : zT zm_104 [.ref 0, .int a0] p (zh K I A w) (zkq (zRo x) S' X' I A w)) (he : ∀ e, x = .inr e → e ∈ [0]) (H : ∀ K', zCA S' X' K' → Q (some (.int (zcd [0] x))) (zpx' p x) (zh K' I A (zow w x))) : zV none zm_250 0 (zent [.ref 0, .int a0, .ref 85] zm_250.2.2.2.2.1) [] p (zh K I A w) Q := by
  change zV none zm_250 0 [some (.ref 0), some (.int a0), some (.ref 85), none] [] p _ Q
  refine zV_go 4 [some (.ref 0), some (.int a0), some (.ref 85), none] [.int a0, .ref 0, .int (0 : Int32), .ref 85] 4 (fun f => rfl) ?_
  refine zV_ch rfl rfl rfl rfl rfl (zT_mono hk (fun r h' q => ?_))
  obtain ⟨rfl, K', hC', rfl⟩ := q
  cases x with
  | inl v =>
    refine Or.inl ⟨_, rfl, ?_⟩
    refine zV_go 8 [some (.ref 0), some (.int a0), some (.ref 85), none] [.long v.toInt64, .int (0 : Int32), .ref 85] 1 (fun f => rfl) ?_
    exact zV_last (n := 1) (j := 0) rfl (by decide) rfl (by decide) zu_85 rfl (by decide) (zV_ret (some (.int 0)) 3 (fun f => rfl) (H K' hC'))
  | inr e =>
    have he := he e rfl
    rcases List.mem_cons.mp he with rfl | he
    · exact Or.inr ⟨_, (13, 3), rfl, rfl, rfl, zV_ret (some (.int 1)) 2 (fun f => rfl) (H K' hC')⟩
    cases he
theorem K_rows {S : zSs} {X : zXt} {K : zKt} {I : zIt} {A : zAt} {w : Nat → Int64} {p : Nat × Nat} {a0 : Int32} (h : zCA S X K) : zT zm_105 [.ref 0, .int a0] p (zh K I A w) (zkq (zRo (zc_of S a0 (fun X => X.2.1) 0).1) (zc_of S a0 (fun X => X.2.1) 0).2 X I A w) := by
  obtain ⟨P, T, Y, rfl, hC, hY⟩ := h
  exact k_rows hC (fun T' h' h1 h2 => by obtain ⟨P', rfl⟩ := h2; exact ⟨rfl, _, ⟨P', T', Y, rfl, h1, hY⟩, rfl⟩)
theorem R_rows {c0 : Int32} {S : zSs} {X : zXt} {K : zKt} {I : zIt} {A : zAt} {w : Nat → Int64} {p : Nat × Nat} {a0 : Int32} (hw : zSw S) (h : zRA S X c0 I A) : zT zm_165 [.ref 75, .int a0] p (zh K I A w) (zrq (.inl (some (.int (zrv (zc_of S a0 (fun X => X.2.1) 0).1)))) (zc_of S a0 (fun X => X.2.1) 0).2 X (zcd [0] (zc_of S a0 (fun X => X.2.1) 0).1) K w) := by
  obtain ⟨rf, rs, bad, pr, pn, J, m, pa, pb, pc, vf, vs, B, rfl, rfl, hR, hJ⟩ := h
  exact r_rows hw hR (fun m' h' h1 h2 => by obtain ⟨rf', rs', bad', pr', pn', pa', pb', pc', vf', vs', rfl⟩ := h2; exact ⟨rfl, _, _, ⟨_, _, _, _, _, _, _, _, _, _, _, _, _, rfl, rfl, h1, hJ⟩, rfl⟩)
theorem w251 {S' : zSs} {X' : zXt} {K : zKt} {I : zIt} {A : zAt} {w : Nat → Int64} {p : Nat × Nat} {Q : Option Value → Nat × Nat → zH → Prop} {x : Int32 ⊕ Nat} {a0 : Int32} (hk : zT zm_105 [.ref 0, .int a0] p (zh K I A w) (zkq (zRo x) S' X' I A w)) (he : ∀ e, x = .inr e → e ∈ [0]) (H : ∀ K', zCA S' X' K' → Q (some (.int (zcd [0] x))) (zpx' p x) (zh K' I A (zow w x))) : zV none zm_251 0 (zent [.ref 0, .int a0, .ref 85] zm_251.2.2.2.2.1) [] p (zh K I A w) Q := by
  change zV none zm_251 0 [some (.ref 0), some (.int a0), some (.ref 85), none] [] p _ Q
  refine zV_go 4 [some (.ref 0), some (.int a0), some (.ref 85), none] [.int a0, .ref 0, .int (0 : Int32), .ref 85] 4 (fun f => rfl) ?_
  refine zV_ch rfl rfl rfl rfl rfl (zT_mono hk (fun r h' q => ?_))
  obtain ⟨rfl, K', hC', rfl⟩ := q
  cases x with
  | inl v =>
    refine Or.inl ⟨_, rfl, ?_⟩
    refine zV_go 8 [some (.ref 0), some (.int a0), some (.ref 85), none] [.long v.toInt64, .int (0 : Int32), .ref 85] 1 (fun f => rfl) ?_
    exact zV_last (n := 1) (j := 0) rfl (by decide) rfl (by decide) zu_85 rfl (by decide) (zV_ret (some (.int 0)) 3 (fun f => rfl) (H K' hC'))
  | inr e =>
    have he := he e rfl
    rcases List.mem_cons.mp he with rfl | he
    · exact Or.inr ⟨_, (13, 3), rfl, rfl, rfl, zV_ret (some (.int 1)) 2 (fun f => rfl) (H K' hC')⟩
    cases he
theorem K_columns {S : zSs} {X : zXt} {K : zKt} {I : zIt} {A : zAt} {w : Nat → Int64} {p : Nat × Nat} {a0 : Int32} (h : zCA S X K) : zT zm_106 [.ref 0, .int a0] p (zh K I A w) (zkq (zRo (zc_of S a0 (fun X => X.2.2.1) 0).1) (zc_of S a0 (fun X => X.2.2.1) 0).2 X I A w) := by
  obtain ⟨P, T, Y, rfl, hC, hY⟩ := h
  exact k_columns hC (fun T' h' h1 h2 => by obtain ⟨P', rfl⟩ := h2; exact ⟨rfl, _, ⟨P', T', Y, rfl, h1, hY⟩, rfl⟩)
theorem R_columns {c0 : Int32} {S : zSs} {X : zXt} {K : zKt} {I : zIt} {A : zAt} {w : Nat → Int64} {p : Nat × Nat} {a0 : Int32} (hw : zSw S) (h : zRA S X c0 I A) : zT zm_166 [.ref 75, .int a0] p (zh K I A w) (zrq (.inl (some (.int (zrv (zc_of S a0 (fun X => X.2.2.1) 0).1)))) (zc_of S a0 (fun X => X.2.2.1) 0).2 X (zcd [0] (zc_of S a0 (fun X => X.2.2.1) 0).1) K w) := by
  obtain ⟨rf, rs, bad, pr, pn, J, m, pa, pb, pc, vf, vs, B, rfl, rfl, hR, hJ⟩ := h
  exact r_columns hw hR (fun m' h' h1 h2 => by obtain ⟨rf', rs', bad', pr', pn', pa', pb', pc', vf', vs', rfl⟩ := h2; exact ⟨rfl, _, _, ⟨_, _, _, _, _, _, _, _, _, _, _, _, _, rfl, rfl, h1, hJ⟩, rfl⟩)
theorem w252 {S' : zSs} {X' : zXt} {K : zKt} {I : zIt} {A : zAt} {w : Nat → Int64} {p : Nat × Nat} {Q : Option Value → Nat × Nat → zH → Prop} {x : Int32 ⊕ Nat} {a0 : Int32} (hk : zT zm_106 [.ref 0, .int a0] p (zh K I A w) (zkq (zRo x) S' X' I A w)) (he : ∀ e, x = .inr e → e ∈ [0]) (H : ∀ K', zCA S' X' K' → Q (some (.int (zcd [0] x))) (zpx' p x) (zh K' I A (zow w x))) : zV none zm_252 0 (zent [.ref 0, .int a0, .ref 85] zm_252.2.2.2.2.1) [] p (zh K I A w) Q := by
  change zV none zm_252 0 [some (.ref 0), some (.int a0), some (.ref 85), none] [] p _ Q
  refine zV_go 4 [some (.ref 0), some (.int a0), some (.ref 85), none] [.int a0, .ref 0, .int (0 : Int32), .ref 85] 4 (fun f => rfl) ?_
  refine zV_ch rfl rfl rfl rfl rfl (zT_mono hk (fun r h' q => ?_))
  obtain ⟨rfl, K', hC', rfl⟩ := q
  cases x with
  | inl v =>
    refine Or.inl ⟨_, rfl, ?_⟩
    refine zV_go 8 [some (.ref 0), some (.int a0), some (.ref 85), none] [.long v.toInt64, .int (0 : Int32), .ref 85] 1 (fun f => rfl) ?_
    exact zV_last (n := 1) (j := 0) rfl (by decide) rfl (by decide) zu_85 rfl (by decide) (zV_ret (some (.int 0)) 3 (fun f => rfl) (H K' hC'))
  | inr e =>
    have he := he e rfl
    rcases List.mem_cons.mp he with rfl | he
    · exact Or.inr ⟨_, (13, 3), rfl, rfl, rfl, zV_ret (some (.int 1)) 2 (fun f => rfl) (H K' hC')⟩
    cases he
theorem K_entry {S : zSs} {X : zXt} {K : zKt} {I : zIt} {A : zAt} {w : Nat → Int64} {p : Nat × Nat} {a0 a1 a2 a3 : Int32} (hw : zSw S) (h : zCA S X K) : zT zm_107 [.ref 0, .int a0, .int a1, .int a2, .int a3] p (zh K I A w) (zkq (zRo (zc_entry S a0 a1 a2 a3).1) (zc_entry S a0 a1 a2 a3).2 X I A w) := by
  obtain ⟨P, T, Y, rfl, hC, hY⟩ := h
  exact k_entry hw hC (fun T' h' h1 h2 => by obtain ⟨P', rfl⟩ := h2; exact ⟨rfl, _, ⟨P', T', Y, rfl, h1, hY⟩, rfl⟩)
theorem R_entry {c0 : Int32} {S : zSs} {X : zXt} {K : zKt} {I : zIt} {A : zAt} {w : Nat → Int64} {p : Nat × Nat} {a0 a1 a2 a3 : Int32} (hw : zSw S) (h : zRA S X c0 I A) : zT zm_168 [.ref 75, .int a0, .int a1, .int a2, .int a3] p (zh K I A w) (zrq (.inl (some (.int (zrv (zc_entry S a0 a1 a2 a3).1)))) (zc_entry S a0 a1 a2 a3).2 X (zcd [0, 1, 2] (zc_entry S a0 a1 a2 a3).1) K w) := by
  obtain ⟨rf, rs, bad, pr, pn, J, m, pa, pb, pc, vf, vs, B, rfl, rfl, hR, hJ⟩ := h
  exact r_entry hw hR (fun m' h' h1 h2 => by obtain ⟨rf', rs', bad', pr', pn', pa', pb', pc', vf', vs', rfl⟩ := h2; exact ⟨rfl, _, _, ⟨_, _, _, _, _, _, _, _, _, _, _, _, _, rfl, rfl, h1, hJ⟩, rfl⟩)
theorem w253 {S' : zSs} {X' : zXt} {K : zKt} {I : zIt} {A : zAt} {w : Nat → Int64} {p : Nat × Nat} {Q : Option Value → Nat × Nat → zH → Prop} {x : Int32 ⊕ Nat} {a0 a1 a2 a3 : Int32} (hk : zT zm_107 [.ref 0, .int a0, .int a1, .int a2, .int a3] p (zh K I A w) (zkq (zRo x) S' X' I A w)) (he : ∀ e, x = .inr e → e ∈ [0, 1, 2]) (H : ∀ K', zCA S' X' K' → Q (some (.int (zcd [0, 1, 2] x))) (zpx' p x) (zh K' I A (zow w x))) : zV none zm_253 0 (zent [.ref 0, .int a0, .int a1, .int a2, .int a3, .ref 85] zm_253.2.2.2.2.1) [] p (zh K I A w) Q := by
  change zV none zm_253 0 [some (.ref 0), some (.int a0), some (.int a1), some (.int a2), some (.int a3), some (.ref 85), none] [] p _ Q
  refine zV_go 9 [some (.ref 0), some (.int a0), some (.int a1), some (.int a2), some (.int a3), some (.ref 85), none] [.int a3, .int a2, .int a1, .int a0, .ref 0, .int (0 : Int32), .ref 85] 7 (fun f => rfl) ?_
  refine zV_ch rfl rfl rfl rfl rfl (zT_mono hk (fun r h' q => ?_))
  obtain ⟨rfl, K', hC', rfl⟩ := q
  cases x with
  | inl v =>
    refine Or.inl ⟨_, rfl, ?_⟩
    refine zV_go 13 [some (.ref 0), some (.int a0), some (.int a1), some (.int a2), some (.int a3), some (.ref 85), none] [.long v.toInt64, .int (0 : Int32), .ref 85] 1 (fun f => rfl) ?_
    exact zV_last (n := 1) (j := 0) rfl (by decide) rfl (by decide) zu_85 rfl (by decide) (zV_ret (some (.int 0)) 3 (fun f => rfl) (H K' hC'))
  | inr e =>
    have he := he e rfl
    rcases List.mem_cons.mp he with rfl | he
    · exact Or.inr ⟨_, (19, 6), rfl, rfl, rfl, zV_ret (some (.int 1)) 2 (fun f => rfl) (H K' hC')⟩
    rcases List.mem_cons.mp he with rfl | he
    · exact Or.inr ⟨_, (23, 6), rfl, rfl, rfl, zV_ret (some (.int 2)) 2 (fun f => rfl) (H K' hC')⟩
    rcases List.mem_cons.mp he with rfl | he
    · exact Or.inr ⟨_, (27, 6), rfl, rfl, rfl, zV_ret (some (.int 3)) 2 (fun f => rfl) (H K' hC')⟩
    cases he
theorem K_swap {S : zSs} {X : zXt} {K : zKt} {I : zIt} {A : zAt} {w : Nat → Int64} {p : Nat × Nat} {a0 a2 a3 : Int32} {a1 : Bool} (hw : zSw S) (h : zCA S X K) : zT zm_110 [.ref 0, .int a0, .int (zbi a1), .int a2, .int a3] p (zh K I A w) (zkq (zRo (zc_swap S a0 a1 a2 a3).1) (zc_swap S a0 a1 a2 a3).2 X I A w) := by
  obtain ⟨P, T, Y, rfl, hC, hY⟩ := h
  exact k_swap hw hC (fun T' h' h1 h2 => by obtain ⟨P', rfl⟩ := h2; exact ⟨rfl, _, ⟨P', T', Y, rfl, h1, hY⟩, rfl⟩)
theorem R_swap {c0 : Int32} {S : zSs} {X : zXt} {K : zKt} {I : zIt} {A : zAt} {w : Nat → Int64} {p : Nat × Nat} {a0 a2 a3 : Int32} {a1 : Bool} (hw : zSw S) (h : zRA S X c0 I A) : zT zm_170 [.ref 75, .int a0, .int (zbi a1), .int a2, .int a3] p (zh K I A w) (zrq (.inl (some (.int (zrv (zc_swap S a0 a1 a2 a3).1)))) (zc_swap S a0 a1 a2 a3).2 X (zcd [0, 1, 2, 3] (zc_swap S a0 a1 a2 a3).1) K w) := by
  obtain ⟨rf, rs, bad, pr, pn, J, m, pa, pb, pc, vf, vs, B, rfl, rfl, hR, hJ⟩ := h
  exact r_swap hw hR (fun m' h' h1 h2 => by obtain ⟨rf', rs', bad', pr', pn', pa', pb', pc', vf', vs', rfl⟩ := h2; exact ⟨rfl, _, _, ⟨_, _, _, _, _, _, _, _, _, _, _, _, _, rfl, rfl, h1, hJ⟩, rfl⟩)
theorem w254 {S' : zSs} {X' : zXt} {K : zKt} {I : zIt} {A : zAt} {w : Nat → Int64} {p : Nat × Nat} {Q : Option Value → Nat × Nat → zH → Prop} {x : Int32 ⊕ Nat} {a0 a2 a3 : Int32} {a1 : Bool} (hk : zT zm_110 [.ref 0, .int a0, .int (zbi a1), .int a2, .int a3] p (zh K I A w) (zkq (zRo x) S' X' I A w)) (he : ∀ e, x = .inr e → e ∈ [0, 1, 2, 3]) (H : ∀ K', zCA S' X' K' → Q (some (.int (zcd [0, 1, 2, 3] x))) (zpx' p x) (zh K' I A (zow w x))) : zV none zm_254 0 (zent [.ref 0, .int a0, .int (zbi a1), .int a2, .int a3, .ref 85] zm_254.2.2.2.2.1) [] p (zh K I A w) Q := by
  change zV none zm_254 0 [some (.ref 0), some (.int a0), some (.int (zbi a1)), some (.int a2), some (.int a3), some (.ref 85), none] [] p _ Q
  refine zV_go 9 [some (.ref 0), some (.int a0), some (.int (zbi a1)), some (.int a2), some (.int a3), some (.ref 85), none] [.int a3, .int a2, .int (zbi a1), .int a0, .ref 0, .int (0 : Int32), .ref 85] 7 (fun f => rfl) ?_
  refine zV_ch rfl rfl rfl rfl rfl (zT_mono hk (fun r h' q => ?_))
  obtain ⟨rfl, K', hC', rfl⟩ := q
  cases x with
  | inl v =>
    refine Or.inl ⟨_, rfl, ?_⟩
    refine zV_go 13 [some (.ref 0), some (.int a0), some (.int (zbi a1)), some (.int a2), some (.int a3), some (.ref 85), none] [.long v.toInt64, .int (0 : Int32), .ref 85] 1 (fun f => rfl) ?_
    exact zV_last (n := 1) (j := 0) rfl (by decide) rfl (by decide) zu_85 rfl (by decide) (zV_ret (some (.int 0)) 3 (fun f => rfl) (H K' hC'))
  | inr e =>
    have he := he e rfl
    rcases List.mem_cons.mp he with rfl | he
    · exact Or.inr ⟨_, (19, 6), rfl, rfl, rfl, zV_ret (some (.int 1)) 2 (fun f => rfl) (H K' hC')⟩
    rcases List.mem_cons.mp he with rfl | he
    · exact Or.inr ⟨_, (23, 6), rfl, rfl, rfl, zV_ret (some (.int 2)) 2 (fun f => rfl) (H K' hC')⟩
    rcases List.mem_cons.mp he with rfl | he
    · exact Or.inr ⟨_, (27, 6), rfl, rfl, rfl, zV_ret (some (.int 3)) 2 (fun f => rfl) (H K' hC')⟩
    rcases List.mem_cons.mp he with rfl | he
    · exact Or.inr ⟨_, (31, 6), rfl, rfl, rfl, zV_ret (some (.int 4)) 2 (fun f => rfl) (H K' hC')⟩
    cases he
theorem K_add {S : zSs} {X : zXt} {K : zKt} {I : zIt} {A : zAt} {w : Nat → Int64} {p : Nat × Nat} {a0 a2 a3 a4 a5 : Int32} {a1 : Bool} (hw : zSw S) (h : zCA S X K) : zT zm_112 [.ref 0, .int a0, .int (zbi a1), .int a2, .int a3, .int a4, .int a5] p (zh K I A w) (zkq (zRo (zc_add S a0 a1 a2 a3 a4 a5).1) (zc_add S a0 a1 a2 a3 a4 a5).2 X I A w) := by
  obtain ⟨P, T, Y, rfl, hC, hY⟩ := h
  exact k_add hw hC (fun T' h' h1 h2 => by obtain ⟨P', rfl⟩ := h2; exact ⟨rfl, _, ⟨P', T', Y, rfl, h1, hY⟩, rfl⟩)
theorem R_add {c0 : Int32} {S : zSs} {X : zXt} {K : zKt} {I : zIt} {A : zAt} {w : Nat → Int64} {p : Nat × Nat} {a0 a2 a3 a4 a5 : Int32} {a1 : Bool} (hw : zSw S) (h : zRA S X c0 I A) : zT zm_177 [.ref 75, .int a0, .int (zbi a1), .int a2, .int a3, .int a4, .int a5] p (zh K I A w) (zrq (.inl (some (.int (zrv (zc_add S a0 a1 a2 a3 a4 a5).1)))) (zc_add S a0 a1 a2 a3 a4 a5).2 X (zcd [0, 1, 2, 3] (zc_add S a0 a1 a2 a3 a4 a5).1) K w) := by
  obtain ⟨rf, rs, bad, pr, pn, J, m, pa, pb, pc, vf, vs, B, rfl, rfl, hR, hJ⟩ := h
  exact r_add hw hR (fun m' h' h1 h2 => by obtain ⟨rf', rs', bad', pr', pn', pa', pb', pc', vf', vs', rfl⟩ := h2; exact ⟨rfl, _, _, ⟨_, _, _, _, _, _, _, _, _, _, _, _, _, rfl, rfl, h1, hJ⟩, rfl⟩)
theorem w255 {S' : zSs} {X' : zXt} {K : zKt} {I : zIt} {A : zAt} {w : Nat → Int64} {p : Nat × Nat} {Q : Option Value → Nat × Nat → zH → Prop} {x : Int32 ⊕ Nat} {a0 a2 a3 a4 a5 : Int32} {a1 : Bool} (hk : zT zm_112 [.ref 0, .int a0, .int (zbi a1), .int a2, .int a3, .int a4, .int a5] p (zh K I A w) (zkq (zRo x) S' X' I A w)) (he : ∀ e, x = .inr e → e ∈ [0, 1, 2, 3]) (H : ∀ K', zCA S' X' K' → Q (some (.int (zcd [0, 1, 2, 3] x))) (zpx' p x) (zh K' I A (zow w x))) : zV none zm_255 0 (zent [.ref 0, .int a0, .int (zbi a1), .int a2, .int a3, .int a4, .int a5, .ref 85] zm_255.2.2.2.2.1) [] p (zh K I A w) Q := by
  change zV none zm_255 0 [some (.ref 0), some (.int a0), some (.int (zbi a1)), some (.int a2), some (.int a3), some (.int a4), some (.int a5), some (.ref 85), none] [] p _ Q
  refine zV_go 13 [some (.ref 0), some (.int a0), some (.int (zbi a1)), some (.int a2), some (.int a3), some (.int a4), some (.int a5), some (.ref 85), none] [.int a5, .int a4, .int a3, .int a2, .int (zbi a1), .int a0, .ref 0, .int (0 : Int32), .ref 85] 9 (fun f => rfl) ?_
  refine zV_ch rfl rfl rfl rfl rfl (zT_mono hk (fun r h' q => ?_))
  obtain ⟨rfl, K', hC', rfl⟩ := q
  cases x with
  | inl v =>
    refine Or.inl ⟨_, rfl, ?_⟩
    refine zV_go 17 [some (.ref 0), some (.int a0), some (.int (zbi a1)), some (.int a2), some (.int a3), some (.int a4), some (.int a5), some (.ref 85), none] [.long v.toInt64, .int (0 : Int32), .ref 85] 1 (fun f => rfl) ?_
    exact zV_last (n := 1) (j := 0) rfl (by decide) rfl (by decide) zu_85 rfl (by decide) (zV_ret (some (.int 0)) 3 (fun f => rfl) (H K' hC'))
  | inr e =>
    have he := he e rfl
    rcases List.mem_cons.mp he with rfl | he
    · exact Or.inr ⟨_, (23, 8), rfl, rfl, rfl, zV_ret (some (.int 1)) 2 (fun f => rfl) (H K' hC')⟩
    rcases List.mem_cons.mp he with rfl | he
    · exact Or.inr ⟨_, (27, 8), rfl, rfl, rfl, zV_ret (some (.int 2)) 2 (fun f => rfl) (H K' hC')⟩
    rcases List.mem_cons.mp he with rfl | he
    · exact Or.inr ⟨_, (31, 8), rfl, rfl, rfl, zV_ret (some (.int 3)) 2 (fun f => rfl) (H K' hC')⟩
    rcases List.mem_cons.mp he with rfl | he
    · exact Or.inr ⟨_, (35, 8), rfl, rfl, rfl, zV_ret (some (.int 4)) 2 (fun f => rfl) (H K' hC')⟩
    cases he
theorem K_scale {S : zSs} {X : zXt} {K : zKt} {I : zIt} {A : zAt} {w : Nat → Int64} {p : Nat × Nat} {a0 a2 a3 a4 : Int32} {a1 : Bool} (hw : zSw S) (h : zCA S X K) : zT zm_113 [.ref 0, .int a0, .int (zbi a1), .int a2, .int a3, .int a4] p (zh K I A w) (zkq (zRo (zc_scale S a0 a1 a2 a3 a4).1) (zc_scale S a0 a1 a2 a3 a4).2 X I A w) := by
  obtain ⟨P, T, Y, rfl, hC, hY⟩ := h
  exact k_scale hw hC (fun T' h' h1 h2 => by obtain ⟨P', rfl⟩ := h2; exact ⟨rfl, _, ⟨P', T', Y, rfl, h1, hY⟩, rfl⟩)
theorem R_scale {c0 : Int32} {S : zSs} {X : zXt} {K : zKt} {I : zIt} {A : zAt} {w : Nat → Int64} {p : Nat × Nat} {a0 a2 a3 a4 : Int32} {a1 : Bool} (hw : zSw S) (h : zRA S X c0 I A) : zT zm_178 [.ref 75, .int a0, .int (zbi a1), .int a2, .int a3, .int a4] p (zh K I A w) (zrq (.inl (some (.int (zrv (zc_scale S a0 a1 a2 a3 a4).1)))) (zc_scale S a0 a1 a2 a3 a4).2 X (zcd [0, 1, 2, 3] (zc_scale S a0 a1 a2 a3 a4).1) K w) := by
  obtain ⟨rf, rs, bad, pr, pn, J, m, pa, pb, pc, vf, vs, B, rfl, rfl, hR, hJ⟩ := h
  exact r_scale hw hR (fun m' h' h1 h2 => by obtain ⟨rf', rs', bad', pr', pn', pa', pb', pc', vf', vs', rfl⟩ := h2; exact ⟨rfl, _, _, ⟨_, _, _, _, _, _, _, _, _, _, _, _, _, rfl, rfl, h1, hJ⟩, rfl⟩)
theorem w256 {S' : zSs} {X' : zXt} {K : zKt} {I : zIt} {A : zAt} {w : Nat → Int64} {p : Nat × Nat} {Q : Option Value → Nat × Nat → zH → Prop} {x : Int32 ⊕ Nat} {a0 a2 a3 a4 : Int32} {a1 : Bool} (hk : zT zm_113 [.ref 0, .int a0, .int (zbi a1), .int a2, .int a3, .int a4] p (zh K I A w) (zkq (zRo x) S' X' I A w)) (he : ∀ e, x = .inr e → e ∈ [0, 1, 2, 3]) (H : ∀ K', zCA S' X' K' → Q (some (.int (zcd [0, 1, 2, 3] x))) (zpx' p x) (zh K' I A (zow w x))) : zV none zm_256 0 (zent [.ref 0, .int a0, .int (zbi a1), .int a2, .int a3, .int a4, .ref 85] zm_256.2.2.2.2.1) [] p (zh K I A w) Q := by
  change zV none zm_256 0 [some (.ref 0), some (.int a0), some (.int (zbi a1)), some (.int a2), some (.int a3), some (.int a4), some (.ref 85), none] [] p _ Q
  refine zV_go 11 [some (.ref 0), some (.int a0), some (.int (zbi a1)), some (.int a2), some (.int a3), some (.int a4), some (.ref 85), none] [.int a4, .int a3, .int a2, .int (zbi a1), .int a0, .ref 0, .int (0 : Int32), .ref 85] 8 (fun f => rfl) ?_
  refine zV_ch rfl rfl rfl rfl rfl (zT_mono hk (fun r h' q => ?_))
  obtain ⟨rfl, K', hC', rfl⟩ := q
  cases x with
  | inl v =>
    refine Or.inl ⟨_, rfl, ?_⟩
    refine zV_go 15 [some (.ref 0), some (.int a0), some (.int (zbi a1)), some (.int a2), some (.int a3), some (.int a4), some (.ref 85), none] [.long v.toInt64, .int (0 : Int32), .ref 85] 1 (fun f => rfl) ?_
    exact zV_last (n := 1) (j := 0) rfl (by decide) rfl (by decide) zu_85 rfl (by decide) (zV_ret (some (.int 0)) 3 (fun f => rfl) (H K' hC'))
  | inr e =>
    have he := he e rfl
    rcases List.mem_cons.mp he with rfl | he
    · exact Or.inr ⟨_, (21, 7), rfl, rfl, rfl, zV_ret (some (.int 1)) 2 (fun f => rfl) (H K' hC')⟩
    rcases List.mem_cons.mp he with rfl | he
    · exact Or.inr ⟨_, (25, 7), rfl, rfl, rfl, zV_ret (some (.int 2)) 2 (fun f => rfl) (H K' hC')⟩
    rcases List.mem_cons.mp he with rfl | he
    · exact Or.inr ⟨_, (29, 7), rfl, rfl, rfl, zV_ret (some (.int 3)) 2 (fun f => rfl) (H K' hC')⟩
    rcases List.mem_cons.mp he with rfl | he
    · exact Or.inr ⟨_, (33, 7), rfl, rfl, rfl, zV_ret (some (.int 4)) 2 (fun f => rfl) (H K' hC')⟩
    cases he
theorem K_back {S : zSs} {X : zXt} {K : zKt} {I : zIt} {A : zAt} {w : Nat → Int64} {p : Nat × Nat} {a0 : Int32} (hw : zSw S) (h : zCA S X K) : zT zm_114 [.ref 0, .int a0] p (zh K I A w) (zkq (zRo (zc_back S a0).1) (zc_back S a0).2 X I A w) := by
  obtain ⟨P, T, Y, rfl, hC, hY⟩ := h
  exact k_back hw hC (fun T' h' h1 h2 => by obtain ⟨P', rfl⟩ := h2; exact ⟨rfl, _, ⟨P', T', Y, rfl, h1, hY⟩, rfl⟩)
theorem R_back {c0 : Int32} {S : zSs} {X : zXt} {K : zKt} {I : zIt} {A : zAt} {w : Nat → Int64} {p : Nat × Nat} {a0 : Int32} (hw : zSw S) (h : zRA S X c0 I A) : zT zm_180 [.ref 75, .int a0] p (zh K I A w) (zrq (.inl (some (.int (zrv (zc_back S a0).1)))) (zc_back S a0).2 X (zcd [0, 1] (zc_back S a0).1) K w) := by
  obtain ⟨rf, rs, bad, pr, pn, J, m, pa, pb, pc, vf, vs, B, rfl, rfl, hR, hJ⟩ := h
  exact r_back hw hR (fun m' h' h1 h2 => by obtain ⟨rf', rs', bad', pr', pn', pa', pb', pc', vf', vs', rfl⟩ := h2; exact ⟨rfl, _, _, ⟨_, _, _, _, _, _, _, _, _, _, _, _, _, rfl, rfl, h1, hJ⟩, rfl⟩)
theorem w257 {S' : zSs} {X' : zXt} {K : zKt} {I : zIt} {A : zAt} {w : Nat → Int64} {p : Nat × Nat} {Q : Option Value → Nat × Nat → zH → Prop} {x : Int32 ⊕ Nat} {a0 : Int32} (hk : zT zm_114 [.ref 0, .int a0] p (zh K I A w) (zkq (zRo x) S' X' I A w)) (he : ∀ e, x = .inr e → e ∈ [0, 1]) (H : ∀ K', zCA S' X' K' → Q (some (.int (zcd [0, 1] x))) (zpx' p x) (zh K' I A (zow w x))) : zV none zm_257 0 (zent [.ref 0, .int a0, .ref 85] zm_257.2.2.2.2.1) [] p (zh K I A w) Q := by
  change zV none zm_257 0 [some (.ref 0), some (.int a0), some (.ref 85), none] [] p _ Q
  refine zV_go 4 [some (.ref 0), some (.int a0), some (.ref 85), none] [.int a0, .ref 0, .int (0 : Int32), .ref 85] 4 (fun f => rfl) ?_
  refine zV_ch rfl rfl rfl rfl rfl (zT_mono hk (fun r h' q => ?_))
  obtain ⟨rfl, K', hC', rfl⟩ := q
  cases x with
  | inl v =>
    refine Or.inl ⟨_, rfl, ?_⟩
    refine zV_go 8 [some (.ref 0), some (.int a0), some (.ref 85), none] [.long v.toInt64, .int (0 : Int32), .ref 85] 1 (fun f => rfl) ?_
    exact zV_last (n := 1) (j := 0) rfl (by decide) rfl (by decide) zu_85 rfl (by decide) (zV_ret (some (.int 0)) 3 (fun f => rfl) (H K' hC'))
  | inr e =>
    have he := he e rfl
    rcases List.mem_cons.mp he with rfl | he
    · exact Or.inr ⟨_, (13, 3), rfl, rfl, rfl, zV_ret (some (.int 1)) 2 (fun f => rfl) (H K' hC')⟩
    rcases List.mem_cons.mp he with rfl | he
    · exact Or.inr ⟨_, (16, 3), rfl, rfl, rfl, zV_ret (some (.int 2)) 2 (fun f => rfl) (H K' hC')⟩
    cases he
theorem K_trans {S : zSs} {X : zXt} {K : zKt} {I : zIt} {A : zAt} {w : Nat → Int64} {p : Nat × Nat} {a0 a1 : Int32} {a2 : Bool} (hw : zSw S) (h : zCA S X K) : zT zm_115 [.ref 0, .int a0, .int a1, .int (zbi a2)] p (zh K I A w) (zkq (zRo (zc_trans S a0 a1 a2).1) (zc_trans S a0 a1 a2).2 X I A w) := by
  obtain ⟨P, T, Y, rfl, hC, hY⟩ := h
  exact k_trans hw hC (fun T' h' h1 h2 => by obtain ⟨P', rfl⟩ := h2; exact ⟨rfl, _, ⟨P', T', Y, rfl, h1, hY⟩, rfl⟩)
theorem R_trans {c0 : Int32} {S : zSs} {X : zXt} {K : zKt} {I : zIt} {A : zAt} {w : Nat → Int64} {p : Nat × Nat} {a0 a1 : Int32} {a2 : Bool} (hw : zSw S) (h : zRA S X c0 I A) : zT zm_182 [.ref 75, .int a0, .int a1, .int (zbi a2)] p (zh K I A w) (zrq (.inl (some (.int (zrv (zc_trans S a0 a1 a2).1)))) (zc_trans S a0 a1 a2).2 X (zcd [0, 1, 3] (zc_trans S a0 a1 a2).1) K w) := by
  obtain ⟨rf, rs, bad, pr, pn, J, m, pa, pb, pc, vf, vs, B, rfl, rfl, hR, hJ⟩ := h
  exact r_trans hw hR (fun m' h' h1 h2 => by obtain ⟨rf', rs', bad', pr', pn', pa', pb', pc', vf', vs', rfl⟩ := h2; exact ⟨rfl, _, _, ⟨_, _, _, _, _, _, _, _, _, _, _, _, _, rfl, rfl, h1, hJ⟩, rfl⟩)
theorem w258 {S' : zSs} {X' : zXt} {K : zKt} {I : zIt} {A : zAt} {w : Nat → Int64} {p : Nat × Nat} {Q : Option Value → Nat × Nat → zH → Prop} {x : Int32 ⊕ Nat} {a0 a1 : Int32} {a2 : Bool} (hk : zT zm_115 [.ref 0, .int a0, .int a1, .int (zbi a2)] p (zh K I A w) (zkq (zRo x) S' X' I A w)) (he : ∀ e, x = .inr e → e ∈ [0, 1, 3]) (H : ∀ K', zCA S' X' K' → Q (some (.int (zcd [0, 1, 3] x))) (zpx' p x) (zh K' I A (zow w x))) : zV none zm_258 0 (zent [.ref 0, .int a0, .int a1, .int (zbi a2), .ref 85] zm_258.2.2.2.2.1) [] p (zh K I A w) Q := by
  change zV none zm_258 0 [some (.ref 0), some (.int a0), some (.int a1), some (.int (zbi a2)), some (.ref 85), none] [] p _ Q
  refine zV_go 7 [some (.ref 0), some (.int a0), some (.int a1), some (.int (zbi a2)), some (.ref 85), none] [.int (zbi a2), .int a1, .int a0, .ref 0, .int (0 : Int32), .ref 85] 6 (fun f => rfl) ?_
  refine zV_ch rfl rfl rfl rfl rfl (zT_mono hk (fun r h' q => ?_))
  obtain ⟨rfl, K', hC', rfl⟩ := q
  cases x with
  | inl v =>
    refine Or.inl ⟨_, rfl, ?_⟩
    refine zV_go 11 [some (.ref 0), some (.int a0), some (.int a1), some (.int (zbi a2)), some (.ref 85), none] [.long v.toInt64, .int (0 : Int32), .ref 85] 1 (fun f => rfl) ?_
    exact zV_last (n := 1) (j := 0) rfl (by decide) rfl (by decide) zu_85 rfl (by decide) (zV_ret (some (.int 0)) 3 (fun f => rfl) (H K' hC'))
  | inr e =>
    have he := he e rfl
    rcases List.mem_cons.mp he with rfl | he
    · exact Or.inr ⟨_, (17, 5), rfl, rfl, rfl, zV_ret (some (.int 1)) 2 (fun f => rfl) (H K' hC')⟩
    rcases List.mem_cons.mp he with rfl | he
    · exact Or.inr ⟨_, (21, 5), rfl, rfl, rfl, zV_ret (some (.int 2)) 2 (fun f => rfl) (H K' hC')⟩
    rcases List.mem_cons.mp he with rfl | he
    · exact Or.inr ⟨_, (25, 5), rfl, rfl, rfl, zV_ret (some (.int 3)) 2 (fun f => rfl) (H K' hC')⟩
    cases he
theorem K_hermite {S : zSs} {X : zXt} {K : zKt} {I : zIt} {A : zAt} {w : Nat → Int64} {p : Nat × Nat} {a0 : Int32} (hw : zSw S) (h : zCA S X K) : zT zm_116 [.ref 0, .int a0] p (zh K I A w) (zkq (zRo (zc_form S a0 zfH).1) (zc_form S a0 zfH).2 X I A w) := by
  obtain ⟨P, T, Y, rfl, hC, hY⟩ := h
  exact k_hermite hw hC (fun T' h' h1 h2 => by obtain ⟨P', rfl⟩ := h2; exact ⟨rfl, _, ⟨P', T', Y, rfl, h1, hY⟩, rfl⟩)
theorem R_hermite {c0 : Int32} {S : zSs} {X : zXt} {K : zKt} {I : zIt} {A : zAt} {w : Nat → Int64} {p : Nat × Nat} {a0 : Int32} (hw : zSw S) (h : zRA S X c0 I A) : zT zm_183 [.ref 75, .int a0] p (zh K I A w) (zrq (.inl (some (.int (zrv (zc_form S a0 zfH).1)))) (zc_form S a0 zfH).2 X (zcd [0, 1, 3] (zc_form S a0 zfH).1) K w) := by
  obtain ⟨rf, rs, bad, pr, pn, J, m, pa, pb, pc, vf, vs, B, rfl, rfl, hR, hJ⟩ := h
  exact r_hermite hw hR (fun m' h' h1 h2 => by obtain ⟨rf', rs', bad', pr', pn', pa', pb', pc', vf', vs', rfl⟩ := h2; exact ⟨rfl, _, _, ⟨_, _, _, _, _, _, _, _, _, _, _, _, _, rfl, rfl, h1, hJ⟩, rfl⟩)
theorem w259 {S' : zSs} {X' : zXt} {K : zKt} {I : zIt} {A : zAt} {w : Nat → Int64} {p : Nat × Nat} {Q : Option Value → Nat × Nat → zH → Prop} {x : Int32 ⊕ Nat} {a0 : Int32} (hk : zT zm_116 [.ref 0, .int a0] p (zh K I A w) (zkq (zRo x) S' X' I A w)) (he : ∀ e, x = .inr e → e ∈ [0, 1, 3]) (H : ∀ K', zCA S' X' K' → Q (some (.int (zcd [0, 1, 3] x))) (zpx' p x) (zh K' I A (zow w x))) : zV none zm_259 0 (zent [.ref 0, .int a0, .ref 85] zm_259.2.2.2.2.1) [] p (zh K I A w) Q := by
  change zV none zm_259 0 [some (.ref 0), some (.int a0), some (.ref 85), none] [] p _ Q
  refine zV_go 4 [some (.ref 0), some (.int a0), some (.ref 85), none] [.int a0, .ref 0, .int (0 : Int32), .ref 85] 4 (fun f => rfl) ?_
  refine zV_ch rfl rfl rfl rfl rfl (zT_mono hk (fun r h' q => ?_))
  obtain ⟨rfl, K', hC', rfl⟩ := q
  cases x with
  | inl v =>
    refine Or.inl ⟨_, rfl, ?_⟩
    refine zV_go 8 [some (.ref 0), some (.int a0), some (.ref 85), none] [.long v.toInt64, .int (0 : Int32), .ref 85] 1 (fun f => rfl) ?_
    exact zV_last (n := 1) (j := 0) rfl (by decide) rfl (by decide) zu_85 rfl (by decide) (zV_ret (some (.int 0)) 3 (fun f => rfl) (H K' hC'))
  | inr e =>
    have he := he e rfl
    rcases List.mem_cons.mp he with rfl | he
    · exact Or.inr ⟨_, (13, 3), rfl, rfl, rfl, zV_ret (some (.int 1)) 2 (fun f => rfl) (H K' hC')⟩
    rcases List.mem_cons.mp he with rfl | he
    · exact Or.inr ⟨_, (16, 3), rfl, rfl, rfl, zV_ret (some (.int 2)) 2 (fun f => rfl) (H K' hC')⟩
    rcases List.mem_cons.mp he with rfl | he
    · exact Or.inr ⟨_, (19, 3), rfl, rfl, rfl, zV_ret (some (.int 3)) 2 (fun f => rfl) (H K' hC')⟩
    cases he
theorem K_smith {S : zSs} {X : zXt} {K : zKt} {I : zIt} {A : zAt} {w : Nat → Int64} {p : Nat × Nat} {a0 : Int32} (hw : zSw S) (h : zCA S X K) : zT zm_117 [.ref 0, .int a0] p (zh K I A w) (zkq (zRo (zc_form S a0 zfS).1) (zc_form S a0 zfS).2 X I A w) := by
  obtain ⟨P, T, Y, rfl, hC, hY⟩ := h
  exact k_smith hw hC (fun T' h' h1 h2 => by obtain ⟨P', rfl⟩ := h2; exact ⟨rfl, _, ⟨P', T', Y, rfl, h1, hY⟩, rfl⟩)
theorem R_smith {c0 : Int32} {S : zSs} {X : zXt} {K : zKt} {I : zIt} {A : zAt} {w : Nat → Int64} {p : Nat × Nat} {a0 : Int32} (hw : zSw S) (h : zRA S X c0 I A) : zT zm_199 [.ref 75, .int a0] p (zh K I A w) (zrq (.inl (some (.int (zrv (zc_form S a0 zfS).1)))) (zc_form S a0 zfS).2 X (zcd [0, 1, 3] (zc_form S a0 zfS).1) K w) := by
  obtain ⟨rf, rs, bad, pr, pn, J, m, pa, pb, pc, vf, vs, B, rfl, rfl, hR, hJ⟩ := h
  exact r_smith hw hR (fun m' h' h1 h2 => by obtain ⟨rf', rs', bad', pr', pn', pa', pb', pc', vf', vs', rfl⟩ := h2; exact ⟨rfl, _, _, ⟨_, _, _, _, _, _, _, _, _, _, _, _, _, rfl, rfl, h1, hJ⟩, rfl⟩)
theorem w260 {S' : zSs} {X' : zXt} {K : zKt} {I : zIt} {A : zAt} {w : Nat → Int64} {p : Nat × Nat} {Q : Option Value → Nat × Nat → zH → Prop} {x : Int32 ⊕ Nat} {a0 : Int32} (hk : zT zm_117 [.ref 0, .int a0] p (zh K I A w) (zkq (zRo x) S' X' I A w)) (he : ∀ e, x = .inr e → e ∈ [0, 1, 3]) (H : ∀ K', zCA S' X' K' → Q (some (.int (zcd [0, 1, 3] x))) (zpx' p x) (zh K' I A (zow w x))) : zV none zm_260 0 (zent [.ref 0, .int a0, .ref 85] zm_260.2.2.2.2.1) [] p (zh K I A w) Q := by
  change zV none zm_260 0 [some (.ref 0), some (.int a0), some (.ref 85), none] [] p _ Q
  refine zV_go 4 [some (.ref 0), some (.int a0), some (.ref 85), none] [.int a0, .ref 0, .int (0 : Int32), .ref 85] 4 (fun f => rfl) ?_
  refine zV_ch rfl rfl rfl rfl rfl (zT_mono hk (fun r h' q => ?_))
  obtain ⟨rfl, K', hC', rfl⟩ := q
  cases x with
  | inl v =>
    refine Or.inl ⟨_, rfl, ?_⟩
    refine zV_go 8 [some (.ref 0), some (.int a0), some (.ref 85), none] [.long v.toInt64, .int (0 : Int32), .ref 85] 1 (fun f => rfl) ?_
    exact zV_last (n := 1) (j := 0) rfl (by decide) rfl (by decide) zu_85 rfl (by decide) (zV_ret (some (.int 0)) 3 (fun f => rfl) (H K' hC'))
  | inr e =>
    have he := he e rfl
    rcases List.mem_cons.mp he with rfl | he
    · exact Or.inr ⟨_, (13, 3), rfl, rfl, rfl, zV_ret (some (.int 1)) 2 (fun f => rfl) (H K' hC')⟩
    rcases List.mem_cons.mp he with rfl | he
    · exact Or.inr ⟨_, (16, 3), rfl, rfl, rfl, zV_ret (some (.int 2)) 2 (fun f => rfl) (H K' hC')⟩
    rcases List.mem_cons.mp he with rfl | he
    · exact Or.inr ⟨_, (19, 3), rfl, rfl, rfl, zV_ret (some (.int 3)) 2 (fun f => rfl) (H K' hC')⟩
    cases he
theorem K_steps {S : zSs} {X : zXt} {K : zKt} {I : zIt} {A : zAt} {w : Nat → Int64} {p : Nat × Nat} {a0 : Int32} (h : zCA S X K) : zT zm_118 [.ref 0, .int a0] p (zh K I A w) (zkq (zRo (zc_of S a0 (fun X => X.2.2.2.2.1) 0).1) (zc_of S a0 (fun X => X.2.2.2.2.1) 0).2 X I A w) := by
  obtain ⟨P, T, Y, rfl, hC, hY⟩ := h
  exact k_steps hC (fun T' h' h1 h2 => by obtain ⟨P', rfl⟩ := h2; exact ⟨rfl, _, ⟨P', T', Y, rfl, h1, hY⟩, rfl⟩)
theorem R_steps {c0 : Int32} {S : zSs} {X : zXt} {K : zKt} {I : zIt} {A : zAt} {w : Nat → Int64} {p : Nat × Nat} {a0 : Int32} (hw : zSw S) (h : zRA S X c0 I A) : zT zm_167 [.ref 75, .int a0] p (zh K I A w) (zrq (.inl (some (.int (zrv (zc_of S a0 (fun X => X.2.2.2.2.1) 0).1)))) (zc_of S a0 (fun X => X.2.2.2.2.1) 0).2 X (zcd [0] (zc_of S a0 (fun X => X.2.2.2.2.1) 0).1) K w) := by
  obtain ⟨rf, rs, bad, pr, pn, J, m, pa, pb, pc, vf, vs, B, rfl, rfl, hR, hJ⟩ := h
  exact r_steps hw hR (fun m' h' h1 h2 => by obtain ⟨rf', rs', bad', pr', pn', pa', pb', pc', vf', vs', rfl⟩ := h2; exact ⟨rfl, _, _, ⟨_, _, _, _, _, _, _, _, _, _, _, _, _, rfl, rfl, h1, hJ⟩, rfl⟩)
theorem w261 {S' : zSs} {X' : zXt} {K : zKt} {I : zIt} {A : zAt} {w : Nat → Int64} {p : Nat × Nat} {Q : Option Value → Nat × Nat → zH → Prop} {x : Int32 ⊕ Nat} {a0 : Int32} (hk : zT zm_118 [.ref 0, .int a0] p (zh K I A w) (zkq (zRo x) S' X' I A w)) (he : ∀ e, x = .inr e → e ∈ [0]) (H : ∀ K', zCA S' X' K' → Q (some (.int (zcd [0] x))) (zpx' p x) (zh K' I A (zow w x))) : zV none zm_261 0 (zent [.ref 0, .int a0, .ref 85] zm_261.2.2.2.2.1) [] p (zh K I A w) Q := by
  change zV none zm_261 0 [some (.ref 0), some (.int a0), some (.ref 85), none] [] p _ Q
  refine zV_go 4 [some (.ref 0), some (.int a0), some (.ref 85), none] [.int a0, .ref 0, .int (0 : Int32), .ref 85] 4 (fun f => rfl) ?_
  refine zV_ch rfl rfl rfl rfl rfl (zT_mono hk (fun r h' q => ?_))
  obtain ⟨rfl, K', hC', rfl⟩ := q
  cases x with
  | inl v =>
    refine Or.inl ⟨_, rfl, ?_⟩
    refine zV_go 8 [some (.ref 0), some (.int a0), some (.ref 85), none] [.long v.toInt64, .int (0 : Int32), .ref 85] 1 (fun f => rfl) ?_
    exact zV_last (n := 1) (j := 0) rfl (by decide) rfl (by decide) zu_85 rfl (by decide) (zV_ret (some (.int 0)) 3 (fun f => rfl) (H K' hC'))
  | inr e =>
    have he := he e rfl
    rcases List.mem_cons.mp he with rfl | he
    · exact Or.inr ⟨_, (13, 3), rfl, rfl, rfl, zV_ret (some (.int 1)) 2 (fun f => rfl) (H K' hC')⟩
    cases he
theorem K_step {S : zSs} {X : zXt} {K : zKt} {I : zIt} {A : zAt} {w : Nat → Int64} {p : Nat × Nat} {a0 a1 a2 : Int32} (hw : zSw S) (h : zCA S X K) : zT zm_119 [.ref 0, .int a0, .int a1, .int a2] p (zh K I A w) (zkq (zRo (zc_step S a0 a1 a2).1) (zc_step S a0 a1 a2).2 X I A w) := by
  obtain ⟨P, T, Y, rfl, hC, hY⟩ := h
  exact k_step hw hC (fun T' h' h1 h2 => by obtain ⟨P', rfl⟩ := h2; exact ⟨rfl, _, ⟨P', T', Y, rfl, h1, hY⟩, rfl⟩)
theorem R_step {c0 : Int32} {S : zSs} {X : zXt} {K : zKt} {I : zIt} {A : zAt} {w : Nat → Int64} {p : Nat × Nat} {a0 a1 a2 : Int32} (hw : zSw S) (h : zRA S X c0 I A) : zT zm_205 [.ref 75, .int a0, .int a1, .int a2] p (zh K I A w) (zrq (.inl (some (.int (zrv (zc_step S a0 a1 a2).1)))) (zc_step S a0 a1 a2).2 X (zcd [0, 2] (zc_step S a0 a1 a2).1) K w) := by
  obtain ⟨rf, rs, bad, pr, pn, J, m, pa, pb, pc, vf, vs, B, rfl, rfl, hR, hJ⟩ := h
  exact r_step hw hR (fun m' h' h1 h2 => by obtain ⟨rf', rs', bad', pr', pn', pa', pb', pc', vf', vs', rfl⟩ := h2; exact ⟨rfl, _, _, ⟨_, _, _, _, _, _, _, _, _, _, _, _, _, rfl, rfl, h1, hJ⟩, rfl⟩)
theorem w262 {S' : zSs} {X' : zXt} {K : zKt} {I : zIt} {A : zAt} {w : Nat → Int64} {p : Nat × Nat} {Q : Option Value → Nat × Nat → zH → Prop} {x : Int32 ⊕ Nat} {a0 a1 a2 : Int32} (hk : zT zm_119 [.ref 0, .int a0, .int a1, .int a2] p (zh K I A w) (zkq (zRo x) S' X' I A w)) (he : ∀ e, x = .inr e → e ∈ [0, 2]) (H : ∀ K', zCA S' X' K' → Q (some (.int (zcd [0, 2] x))) (zpx' p x) (zh K' I A (zow w x))) : zV none zm_262 0 (zent [.ref 0, .int a0, .int a1, .int a2, .ref 85] zm_262.2.2.2.2.1) [] p (zh K I A w) Q := by
  change zV none zm_262 0 [some (.ref 0), some (.int a0), some (.int a1), some (.int a2), some (.ref 85), none] [] p _ Q
  refine zV_go 7 [some (.ref 0), some (.int a0), some (.int a1), some (.int a2), some (.ref 85), none] [.int a2, .int a1, .int a0, .ref 0, .int (0 : Int32), .ref 85] 6 (fun f => rfl) ?_
  refine zV_ch rfl rfl rfl rfl rfl (zT_mono hk (fun r h' q => ?_))
  obtain ⟨rfl, K', hC', rfl⟩ := q
  cases x with
  | inl v =>
    refine Or.inl ⟨_, rfl, ?_⟩
    refine zV_go 11 [some (.ref 0), some (.int a0), some (.int a1), some (.int a2), some (.ref 85), none] [.long v.toInt64, .int (0 : Int32), .ref 85] 1 (fun f => rfl) ?_
    exact zV_last (n := 1) (j := 0) rfl (by decide) rfl (by decide) zu_85 rfl (by decide) (zV_ret (some (.int 0)) 3 (fun f => rfl) (H K' hC'))
  | inr e =>
    have he := he e rfl
    rcases List.mem_cons.mp he with rfl | he
    · exact Or.inr ⟨_, (17, 5), rfl, rfl, rfl, zV_ret (some (.int 1)) 2 (fun f => rfl) (H K' hC')⟩
    rcases List.mem_cons.mp he with rfl | he
    · exact Or.inr ⟨_, (21, 5), rfl, rfl, rfl, zV_ret (some (.int 2)) 2 (fun f => rfl) (H K' hC')⟩
    cases he
theorem K_after {S : zSs} {X : zXt} {K : zKt} {I : zIt} {A : zAt} {w : Nat → Int64} {p : Nat × Nat} {a0 a1 a2 a3 a4 : Int32} (hw : zSw S) (h : zCA S X K) : zT zm_120 [.ref 0, .int a0, .int a1, .int a2, .int a3, .int a4] p (zh K I A w) (zkq (zRo (zc_after S a0 a1 a2 a3 a4).1) (zc_after S a0 a1 a2 a3 a4).2 X I A w) := by
  obtain ⟨P, T, Y, rfl, hC, hY⟩ := h
  exact k_after hw hC (fun T' h' h1 h2 => by obtain ⟨P', rfl⟩ := h2; exact ⟨rfl, _, ⟨P', T', Y, rfl, h1, hY⟩, rfl⟩)
theorem R_after {c0 : Int32} {S : zSs} {X : zXt} {K : zKt} {I : zIt} {A : zAt} {w : Nat → Int64} {p : Nat × Nat} {a0 a1 a2 a3 a4 : Int32} (hw : zSw S) (h : zRA S X c0 I A) : zT zm_206 [.ref 75, .int a0, .int a1, .int a2, .int a3, .int a4] p (zh K I A w) (zrq (.inl (some (.int (zrv (zc_after S a0 a1 a2 a3 a4).1)))) (zc_after S a0 a1 a2 a3 a4).2 X (zcd [0, 1, 2] (zc_after S a0 a1 a2 a3 a4).1) K w) := by
  obtain ⟨rf, rs, bad, pr, pn, J, m, pa, pb, pc, vf, vs, B, rfl, rfl, hR, hJ⟩ := h
  exact r_after hw hR (fun m' h' h1 h2 => by obtain ⟨rf', rs', bad', pr', pn', pa', pb', pc', vf', vs', rfl⟩ := h2; exact ⟨rfl, _, _, ⟨_, _, _, _, _, _, _, _, _, _, _, _, _, rfl, rfl, h1, hJ⟩, rfl⟩)
theorem w263 {S' : zSs} {X' : zXt} {K : zKt} {I : zIt} {A : zAt} {w : Nat → Int64} {p : Nat × Nat} {Q : Option Value → Nat × Nat → zH → Prop} {x : Int32 ⊕ Nat} {a0 a1 a2 a3 a4 : Int32} (hk : zT zm_120 [.ref 0, .int a0, .int a1, .int a2, .int a3, .int a4] p (zh K I A w) (zkq (zRo x) S' X' I A w)) (he : ∀ e, x = .inr e → e ∈ [0, 1, 2]) (H : ∀ K', zCA S' X' K' → Q (some (.int (zcd [0, 1, 2] x))) (zpx' p x) (zh K' I A (zow w x))) : zV none zm_263 0 (zent [.ref 0, .int a0, .int a1, .int a2, .int a3, .int a4, .ref 85] zm_263.2.2.2.2.1) [] p (zh K I A w) Q := by
  change zV none zm_263 0 [some (.ref 0), some (.int a0), some (.int a1), some (.int a2), some (.int a3), some (.int a4), some (.ref 85), none] [] p _ Q
  refine zV_go 11 [some (.ref 0), some (.int a0), some (.int a1), some (.int a2), some (.int a3), some (.int a4), some (.ref 85), none] [.int a4, .int a3, .int a2, .int a1, .int a0, .ref 0, .int (0 : Int32), .ref 85] 8 (fun f => rfl) ?_
  refine zV_ch rfl rfl rfl rfl rfl (zT_mono hk (fun r h' q => ?_))
  obtain ⟨rfl, K', hC', rfl⟩ := q
  cases x with
  | inl v =>
    refine Or.inl ⟨_, rfl, ?_⟩
    refine zV_go 15 [some (.ref 0), some (.int a0), some (.int a1), some (.int a2), some (.int a3), some (.int a4), some (.ref 85), none] [.long v.toInt64, .int (0 : Int32), .ref 85] 1 (fun f => rfl) ?_
    exact zV_last (n := 1) (j := 0) rfl (by decide) rfl (by decide) zu_85 rfl (by decide) (zV_ret (some (.int 0)) 3 (fun f => rfl) (H K' hC'))
  | inr e =>
    have he := he e rfl
    rcases List.mem_cons.mp he with rfl | he
    · exact Or.inr ⟨_, (21, 7), rfl, rfl, rfl, zV_ret (some (.int 1)) 2 (fun f => rfl) (H K' hC')⟩
    rcases List.mem_cons.mp he with rfl | he
    · exact Or.inr ⟨_, (25, 7), rfl, rfl, rfl, zV_ret (some (.int 2)) 2 (fun f => rfl) (H K' hC')⟩
    rcases List.mem_cons.mp he with rfl | he
    · exact Or.inr ⟨_, (29, 7), rfl, rfl, rfl, zV_ret (some (.int 3)) 2 (fun f => rfl) (H K' hC')⟩
    cases he
theorem K_solve {S : zSs} {X : zXt} {K : zKt} {I : zIt} {A : zAt} {w : Nat → Int64} {p : Nat × Nat} {a0 a1 a2 : Int32} (hw : zSw S) (h : zCA S X K) : zT zm_121 [.ref 0, .int a0, .int a1, .int a2] p (zh K I A w) (zkq (zRo (zc_solve S a0 a1 a2).1) (zc_solve S a0 a1 a2).2 X I A w) := by
  obtain ⟨P, T, Y, rfl, hC, hY⟩ := h
  exact k_solve hw hC (fun T' h' h1 h2 => by obtain ⟨P', rfl⟩ := h2; exact ⟨rfl, _, ⟨P', T', Y, rfl, h1, hY⟩, rfl⟩)
theorem R_solve {c0 : Int32} {S : zSs} {X : zXt} {K : zKt} {I : zIt} {A : zAt} {w : Nat → Int64} {p : Nat × Nat} {a0 a1 a2 : Int32} (hw : zSw S) (h : zRA S X c0 I A) : zT zm_207 [.ref 75, .int a0, .int a1, .int a2] p (zh K I A w) (zrq (.inl (some (.int (zrv (zc_solve S a0 a1 a2).1)))) (zc_solve S a0 a1 a2).2 X (zcd [0, 1, 3] (zc_solve S a0 a1 a2).1) K w) := by
  obtain ⟨rf, rs, bad, pr, pn, J, m, pa, pb, pc, vf, vs, B, rfl, rfl, hR, hJ⟩ := h
  exact r_solve hw hR (fun m' h' h1 h2 => by obtain ⟨rf', rs', bad', pr', pn', pa', pb', pc', vf', vs', rfl⟩ := h2; exact ⟨rfl, _, _, ⟨_, _, _, _, _, _, _, _, _, _, _, _, _, rfl, rfl, h1, hJ⟩, rfl⟩)
theorem w264 {S' : zSs} {X' : zXt} {K : zKt} {I : zIt} {A : zAt} {w : Nat → Int64} {p : Nat × Nat} {Q : Option Value → Nat × Nat → zH → Prop} {x : Int32 ⊕ Nat} {a0 a1 a2 : Int32} (hk : zT zm_121 [.ref 0, .int a0, .int a1, .int a2] p (zh K I A w) (zkq (zRo x) S' X' I A w)) (he : ∀ e, x = .inr e → e ∈ [0, 1, 3]) (H : ∀ K', zCA S' X' K' → Q (some (.int (zcd [0, 1, 3] x))) (zpx' p x) (zh K' I A (zow w x))) : zV none zm_264 0 (zent [.ref 0, .int a0, .int a1, .int a2, .ref 85] zm_264.2.2.2.2.1) [] p (zh K I A w) Q := by
  change zV none zm_264 0 [some (.ref 0), some (.int a0), some (.int a1), some (.int a2), some (.ref 85), none] [] p _ Q
  refine zV_go 7 [some (.ref 0), some (.int a0), some (.int a1), some (.int a2), some (.ref 85), none] [.int a2, .int a1, .int a0, .ref 0, .int (0 : Int32), .ref 85] 6 (fun f => rfl) ?_
  refine zV_ch rfl rfl rfl rfl rfl (zT_mono hk (fun r h' q => ?_))
  obtain ⟨rfl, K', hC', rfl⟩ := q
  cases x with
  | inl v =>
    refine Or.inl ⟨_, rfl, ?_⟩
    refine zV_go 11 [some (.ref 0), some (.int a0), some (.int a1), some (.int a2), some (.ref 85), none] [.long v.toInt64, .int (0 : Int32), .ref 85] 1 (fun f => rfl) ?_
    exact zV_last (n := 1) (j := 0) rfl (by decide) rfl (by decide) zu_85 rfl (by decide) (zV_ret (some (.int 0)) 3 (fun f => rfl) (H K' hC'))
  | inr e =>
    have he := he e rfl
    rcases List.mem_cons.mp he with rfl | he
    · exact Or.inr ⟨_, (17, 5), rfl, rfl, rfl, zV_ret (some (.int 1)) 2 (fun f => rfl) (H K' hC')⟩
    rcases List.mem_cons.mp he with rfl | he
    · exact Or.inr ⟨_, (21, 5), rfl, rfl, rfl, zV_ret (some (.int 2)) 2 (fun f => rfl) (H K' hC')⟩
    rcases List.mem_cons.mp he with rfl | he
    · exact Or.inr ⟨_, (25, 5), rfl, rfl, rfl, zV_ret (some (.int 3)) 2 (fun f => rfl) (H K' hC')⟩
    cases he
theorem K_kern {S : zSs} {X : zXt} {K : zKt} {I : zIt} {A : zAt} {w : Nat → Int64} {p : Nat × Nat} {a0 a1 : Int32} (hw : zSw S) (h : zCA S X K) : zT zm_123 [.ref 0, .int a0, .int a1] p (zh K I A w) (zkq (zRo (zc_kern S a0 a1).1) (zc_kern S a0 a1).2 X I A w) := by
  obtain ⟨P, T, Y, rfl, hC, hY⟩ := h
  exact k_kern hw hC (fun T' h' h1 h2 => by obtain ⟨P', rfl⟩ := h2; exact ⟨rfl, _, ⟨P', T', Y, rfl, h1, hY⟩, rfl⟩)
theorem R_kern {c0 : Int32} {S : zSs} {X : zXt} {K : zKt} {I : zIt} {A : zAt} {w : Nat → Int64} {p : Nat × Nat} {a0 a1 : Int32} (hw : zSw S) (h : zRA S X c0 I A) : zT zm_211 [.ref 75, .int a0, .int a1] p (zh K I A w) (zrq (.inl (some (.int (zrv (zc_kern S a0 a1).1)))) (zc_kern S a0 a1).2 X (zcd [0, 1, 3] (zc_kern S a0 a1).1) K w) := by
  obtain ⟨rf, rs, bad, pr, pn, J, m, pa, pb, pc, vf, vs, B, rfl, rfl, hR, hJ⟩ := h
  exact r_kern hw hR (fun m' h' h1 h2 => by obtain ⟨rf', rs', bad', pr', pn', pa', pb', pc', vf', vs', rfl⟩ := h2; exact ⟨rfl, _, _, ⟨_, _, _, _, _, _, _, _, _, _, _, _, _, rfl, rfl, h1, hJ⟩, rfl⟩)
theorem w265 {S' : zSs} {X' : zXt} {K : zKt} {I : zIt} {A : zAt} {w : Nat → Int64} {p : Nat × Nat} {Q : Option Value → Nat × Nat → zH → Prop} {x : Int32 ⊕ Nat} {a0 a1 : Int32} (hk : zT zm_123 [.ref 0, .int a0, .int a1] p (zh K I A w) (zkq (zRo x) S' X' I A w)) (he : ∀ e, x = .inr e → e ∈ [0, 1, 3]) (H : ∀ K', zCA S' X' K' → Q (some (.int (zcd [0, 1, 3] x))) (zpx' p x) (zh K' I A (zow w x))) : zV none zm_265 0 (zent [.ref 0, .int a0, .int a1, .ref 85] zm_265.2.2.2.2.1) [] p (zh K I A w) Q := by
  change zV none zm_265 0 [some (.ref 0), some (.int a0), some (.int a1), some (.ref 85), none] [] p _ Q
  refine zV_go 5 [some (.ref 0), some (.int a0), some (.int a1), some (.ref 85), none] [.int a1, .int a0, .ref 0, .int (0 : Int32), .ref 85] 5 (fun f => rfl) ?_
  refine zV_ch rfl rfl rfl rfl rfl (zT_mono hk (fun r h' q => ?_))
  obtain ⟨rfl, K', hC', rfl⟩ := q
  cases x with
  | inl v =>
    refine Or.inl ⟨_, rfl, ?_⟩
    refine zV_go 9 [some (.ref 0), some (.int a0), some (.int a1), some (.ref 85), none] [.long v.toInt64, .int (0 : Int32), .ref 85] 1 (fun f => rfl) ?_
    exact zV_last (n := 1) (j := 0) rfl (by decide) rfl (by decide) zu_85 rfl (by decide) (zV_ret (some (.int 0)) 3 (fun f => rfl) (H K' hC'))
  | inr e =>
    have he := he e rfl
    rcases List.mem_cons.mp he with rfl | he
    · exact Or.inr ⟨_, (15, 4), rfl, rfl, rfl, zV_ret (some (.int 1)) 2 (fun f => rfl) (H K' hC')⟩
    rcases List.mem_cons.mp he with rfl | he
    · exact Or.inr ⟨_, (19, 4), rfl, rfl, rfl, zV_ret (some (.int 2)) 2 (fun f => rfl) (H K' hC')⟩
    rcases List.mem_cons.mp he with rfl | he
    · exact Or.inr ⟨_, (23, 4), rfl, rfl, rfl, zV_ret (some (.int 3)) 2 (fun f => rfl) (H K' hC')⟩
    cases he
theorem K_inva {S : zSs} {X : zXt} {K : zKt} {I : zIt} {A : zAt} {w : Nat → Int64} {p : Nat × Nat} {a0 a1 a2 : Int32} (hw : zSw S) (h : zCA S X K) : zT zm_124 [.ref 0, .int a0, .int a1, .int a2] p (zh K I A w) (zkq (zRo (zc_inva S a0 a1 a2).1) (zc_inva S a0 a1 a2).2 X I A w) := by
  obtain ⟨P, T, Y, rfl, hC, hY⟩ := h
  exact k_inva hw hC (fun T' h' h1 h2 => by obtain ⟨P', rfl⟩ := h2; exact ⟨rfl, _, ⟨P', T', Y, rfl, h1, hY⟩, rfl⟩)
theorem R_inva {c0 : Int32} {S : zSs} {X : zXt} {K : zKt} {I : zIt} {A : zAt} {w : Nat → Int64} {p : Nat × Nat} {a0 a1 a2 : Int32} (hw : zSw S) (h : zRA S X c0 I A) : zT zm_212 [.ref 75, .int a0, .int a1, .int a2] p (zh K I A w) (zrq (.inl (some (.int (zrv (zc_inva S a0 a1 a2).1)))) (zc_inva S a0 a1 a2).2 X (zcd [0, 1, 2, 3] (zc_inva S a0 a1 a2).1) K w) := by
  obtain ⟨rf, rs, bad, pr, pn, J, m, pa, pb, pc, vf, vs, B, rfl, rfl, hR, hJ⟩ := h
  exact r_inva hw hR (fun m' h' h1 h2 => by obtain ⟨rf', rs', bad', pr', pn', pa', pb', pc', vf', vs', rfl⟩ := h2; exact ⟨rfl, _, _, ⟨_, _, _, _, _, _, _, _, _, _, _, _, _, rfl, rfl, h1, hJ⟩, rfl⟩)
theorem w266 {S' : zSs} {X' : zXt} {K : zKt} {I : zIt} {A : zAt} {w : Nat → Int64} {p : Nat × Nat} {Q : Option Value → Nat × Nat → zH → Prop} {x : Int32 ⊕ Nat} {a0 a1 a2 : Int32} (hk : zT zm_124 [.ref 0, .int a0, .int a1, .int a2] p (zh K I A w) (zkq (zRo x) S' X' I A w)) (he : ∀ e, x = .inr e → e ∈ [0, 1, 2, 3]) (H : ∀ K', zCA S' X' K' → Q (some (.int (zcd [0, 1, 2, 3] x))) (zpx' p x) (zh K' I A (zow w x))) : zV none zm_266 0 (zent [.ref 0, .int a0, .int a1, .int a2, .ref 85] zm_266.2.2.2.2.1) [] p (zh K I A w) Q := by
  change zV none zm_266 0 [some (.ref 0), some (.int a0), some (.int a1), some (.int a2), some (.ref 85), none] [] p _ Q
  refine zV_go 7 [some (.ref 0), some (.int a0), some (.int a1), some (.int a2), some (.ref 85), none] [.int a2, .int a1, .int a0, .ref 0, .int (0 : Int32), .ref 85] 6 (fun f => rfl) ?_
  refine zV_ch rfl rfl rfl rfl rfl (zT_mono hk (fun r h' q => ?_))
  obtain ⟨rfl, K', hC', rfl⟩ := q
  cases x with
  | inl v =>
    refine Or.inl ⟨_, rfl, ?_⟩
    refine zV_go 11 [some (.ref 0), some (.int a0), some (.int a1), some (.int a2), some (.ref 85), none] [.long v.toInt64, .int (0 : Int32), .ref 85] 1 (fun f => rfl) ?_
    exact zV_last (n := 1) (j := 0) rfl (by decide) rfl (by decide) zu_85 rfl (by decide) (zV_ret (some (.int 0)) 3 (fun f => rfl) (H K' hC'))
  | inr e =>
    have he := he e rfl
    rcases List.mem_cons.mp he with rfl | he
    · exact Or.inr ⟨_, (17, 5), rfl, rfl, rfl, zV_ret (some (.int 1)) 2 (fun f => rfl) (H K' hC')⟩
    rcases List.mem_cons.mp he with rfl | he
    · exact Or.inr ⟨_, (21, 5), rfl, rfl, rfl, zV_ret (some (.int 2)) 2 (fun f => rfl) (H K' hC')⟩
    rcases List.mem_cons.mp he with rfl | he
    · exact Or.inr ⟨_, (25, 5), rfl, rfl, rfl, zV_ret (some (.int 3)) 2 (fun f => rfl) (H K' hC')⟩
    rcases List.mem_cons.mp he with rfl | he
    · exact Or.inr ⟨_, (29, 5), rfl, rfl, rfl, zV_ret (some (.int 4)) 2 (fun f => rfl) (H K' hC')⟩
    cases he
theorem K_order {S : zSs} {X : zXt} {K : zKt} {I : zIt} {A : zAt} {w : Nat → Int64} {p : Nat × Nat} {a0 : Int32} (hw : zSw S) (h : zCA S X K) : zT zm_125 [.ref 0, .int a0] p (zh K I A w) (zkq (zRoL (zc_order S a0).1) (zc_order S a0).2 X I A w) := by
  obtain ⟨P, T, Y, rfl, hC, hY⟩ := h
  exact k_order hw hC (fun T' h' h1 h2 => by obtain ⟨P', rfl⟩ := h2; exact ⟨rfl, _, ⟨P', T', Y, rfl, h1, hY⟩, rfl⟩)
theorem R_order {c0 : Int32} {S : zSs} {X : zXt} {K : zKt} {I : zIt} {A : zAt} {w : Nat → Int64} {p : Nat × Nat} {a0 : Int32} (hw : zSw S) (h : zRA S X c0 I A) : zT zm_214 [.ref 75, .int a0] p (zh K I A w) (zrq (.inl (some (.long (zrvL (zc_order S a0).1)))) (zc_order S a0).2 X (zcd [0, 1, 3] (zc_order S a0).1) K w) := by
  obtain ⟨rf, rs, bad, pr, pn, J, m, pa, pb, pc, vf, vs, B, rfl, rfl, hR, hJ⟩ := h
  exact r_order hw hR (fun m' h' h1 h2 => by obtain ⟨rf', rs', bad', pr', pn', pa', pb', pc', vf', vs', rfl⟩ := h2; exact ⟨rfl, _, _, ⟨_, _, _, _, _, _, _, _, _, _, _, _, _, rfl, rfl, h1, hJ⟩, rfl⟩)
theorem w267 {S' : zSs} {X' : zXt} {K : zKt} {I : zIt} {A : zAt} {w : Nat → Int64} {p : Nat × Nat} {Q : Option Value → Nat × Nat → zH → Prop} {x : Int64 ⊕ Nat} {a0 : Int32} (hk : zT zm_125 [.ref 0, .int a0] p (zh K I A w) (zkq (zRoL x) S' X' I A w)) (he : ∀ e, x = .inr e → e ∈ [0, 1, 3]) (H : ∀ K', zCA S' X' K' → Q (some (.int (zcd [0, 1, 3] x))) (zpx' p x) (zh K' I A (zowL w x))) : zV none zm_267 0 (zent [.ref 0, .int a0, .ref 85] zm_267.2.2.2.2.1) [] p (zh K I A w) Q := by
  change zV none zm_267 0 [some (.ref 0), some (.int a0), some (.ref 85), none] [] p _ Q
  refine zV_go 4 [some (.ref 0), some (.int a0), some (.ref 85), none] [.int a0, .ref 0, .int (0 : Int32), .ref 85] 4 (fun f => rfl) ?_
  refine zV_ch rfl rfl rfl rfl rfl (zT_mono hk (fun r h' q => ?_))
  obtain ⟨rfl, K', hC', rfl⟩ := q
  cases x with
  | inl v =>
    refine Or.inl ⟨_, rfl, ?_⟩
    show zV none zm_267 7 [some (.ref 0), some (.int a0), some (.ref 85), none] [.long v, .int (0 : Int32), .ref 85] p _ Q
    exact zV_last (n := 1) (j := 0) rfl (by decide) rfl (by decide) zu_85 rfl (by decide) (zV_ret (some (.int 0)) 3 (fun f => rfl) (H K' hC'))
  | inr e =>
    have he := he e rfl
    rcases List.mem_cons.mp he with rfl | he
    · exact Or.inr ⟨_, (12, 3), rfl, rfl, rfl, zV_ret (some (.int 1)) 2 (fun f => rfl) (H K' hC')⟩
    rcases List.mem_cons.mp he with rfl | he
    · exact Or.inr ⟨_, (15, 3), rfl, rfl, rfl, zV_ret (some (.int 2)) 2 (fun f => rfl) (H K' hC')⟩
    rcases List.mem_cons.mp he with rfl | he
    · exact Or.inr ⟨_, (18, 3), rfl, rfl, rfl, zV_ret (some (.int 3)) 2 (fun f => rfl) (H K' hC')⟩
    cases he
theorem K_det {S : zSs} {X : zXt} {K : zKt} {I : zIt} {A : zAt} {w : Nat → Int64} {p : Nat × Nat} {a0 a1 : Int32} (hw : zSw S) (h : zCA S X K) : zT zm_126 [.ref 0, .int a0, .int a1] p (zh K I A w) (zkq (zRo (zc_det S a0 a1).1) (zc_det S a0 a1).2 X I A w) := by
  obtain ⟨P, T, Y, rfl, hC, hY⟩ := h
  exact k_det hw hC (fun T' h' h1 h2 => by obtain ⟨P', rfl⟩ := h2; exact ⟨rfl, _, ⟨P', T', Y, rfl, h1, hY⟩, rfl⟩)
theorem R_det {c0 : Int32} {S : zSs} {X : zXt} {K : zKt} {I : zIt} {A : zAt} {w : Nat → Int64} {p : Nat × Nat} {a0 a1 : Int32} (hw : zSw S) (h : zRA S X c0 I A) : zT zm_215 [.ref 75, .int a0, .int a1] p (zh K I A w) (zrq (.inl (some (.int (zrv (zc_det S a0 a1).1)))) (zc_det S a0 a1).2 X (zcd [0, 1, 2, 3] (zc_det S a0 a1).1) K w) := by
  obtain ⟨rf, rs, bad, pr, pn, J, m, pa, pb, pc, vf, vs, B, rfl, rfl, hR, hJ⟩ := h
  exact r_det hw hR (fun m' h' h1 h2 => by obtain ⟨rf', rs', bad', pr', pn', pa', pb', pc', vf', vs', rfl⟩ := h2; exact ⟨rfl, _, _, ⟨_, _, _, _, _, _, _, _, _, _, _, _, _, rfl, rfl, h1, hJ⟩, rfl⟩)
theorem w268 {S' : zSs} {X' : zXt} {K : zKt} {I : zIt} {A : zAt} {w : Nat → Int64} {p : Nat × Nat} {Q : Option Value → Nat × Nat → zH → Prop} {x : Int32 ⊕ Nat} {a0 a1 : Int32} (hk : zT zm_126 [.ref 0, .int a0, .int a1] p (zh K I A w) (zkq (zRo x) S' X' I A w)) (he : ∀ e, x = .inr e → e ∈ [0, 1, 2, 3]) (H : ∀ K', zCA S' X' K' → Q (some (.int (zcd [0, 1, 2, 3] x))) (zpx' p x) (zh K' I A (zow w x))) : zV none zm_268 0 (zent [.ref 0, .int a0, .int a1, .ref 85] zm_268.2.2.2.2.1) [] p (zh K I A w) Q := by
  change zV none zm_268 0 [some (.ref 0), some (.int a0), some (.int a1), some (.ref 85), none] [] p _ Q
  refine zV_go 5 [some (.ref 0), some (.int a0), some (.int a1), some (.ref 85), none] [.int a1, .int a0, .ref 0, .int (0 : Int32), .ref 85] 5 (fun f => rfl) ?_
  refine zV_ch rfl rfl rfl rfl rfl (zT_mono hk (fun r h' q => ?_))
  obtain ⟨rfl, K', hC', rfl⟩ := q
  cases x with
  | inl v =>
    refine Or.inl ⟨_, rfl, ?_⟩
    refine zV_go 9 [some (.ref 0), some (.int a0), some (.int a1), some (.ref 85), none] [.long v.toInt64, .int (0 : Int32), .ref 85] 1 (fun f => rfl) ?_
    exact zV_last (n := 1) (j := 0) rfl (by decide) rfl (by decide) zu_85 rfl (by decide) (zV_ret (some (.int 0)) 3 (fun f => rfl) (H K' hC'))
  | inr e =>
    have he := he e rfl
    rcases List.mem_cons.mp he with rfl | he
    · exact Or.inr ⟨_, (15, 4), rfl, rfl, rfl, zV_ret (some (.int 1)) 2 (fun f => rfl) (H K' hC')⟩
    rcases List.mem_cons.mp he with rfl | he
    · exact Or.inr ⟨_, (19, 4), rfl, rfl, rfl, zV_ret (some (.int 2)) 2 (fun f => rfl) (H K' hC')⟩
    rcases List.mem_cons.mp he with rfl | he
    · exact Or.inr ⟨_, (23, 4), rfl, rfl, rfl, zV_ret (some (.int 3)) 2 (fun f => rfl) (H K' hC')⟩
    rcases List.mem_cons.mp he with rfl | he
    · exact Or.inr ⟨_, (27, 4), rfl, rfl, rfl, zV_ret (some (.int 4)) 2 (fun f => rfl) (H K' hC')⟩
    cases he
theorem K_span {S : zSs} {X : zXt} {K : zKt} {I : zIt} {A : zAt} {w : Nat → Int64} {p : Nat × Nat} {a0 a1 : Int32} (hw : zSw S) (h : zCA S X K) : zT zm_128 [.ref 0, .int a0, .int a1] p (zh K I A w) (zkq (zRo (zc_span S a0 a1).1) (zc_span S a0 a1).2 X I A w) := by
  obtain ⟨P, T, Y, rfl, hC, hY⟩ := h
  exact k_span hw hC (fun T' h' h1 h2 => by obtain ⟨P', rfl⟩ := h2; exact ⟨rfl, _, ⟨P', T', Y, rfl, h1, hY⟩, rfl⟩)
theorem R_span {c0 : Int32} {S : zSs} {X : zXt} {K : zKt} {I : zIt} {A : zAt} {w : Nat → Int64} {p : Nat × Nat} {a0 a1 : Int32} (hw : zSw S) (h : zRA S X c0 I A) : zT zm_217 [.ref 75, .int a0, .int a1] p (zh K I A w) (zrq (.inl (some (.int (zrv (zc_span S a0 a1).1)))) (zc_span S a0 a1).2 X (zcd [0, 1, 3] (zc_span S a0 a1).1) K w) := by
  obtain ⟨rf, rs, bad, pr, pn, J, m, pa, pb, pc, vf, vs, B, rfl, rfl, hR, hJ⟩ := h
  exact r_span hw hR (fun m' h' h1 h2 => by obtain ⟨rf', rs', bad', pr', pn', pa', pb', pc', vf', vs', rfl⟩ := h2; exact ⟨rfl, _, _, ⟨_, _, _, _, _, _, _, _, _, _, _, _, _, rfl, rfl, h1, hJ⟩, rfl⟩)
theorem w269 {S' : zSs} {X' : zXt} {K : zKt} {I : zIt} {A : zAt} {w : Nat → Int64} {p : Nat × Nat} {Q : Option Value → Nat × Nat → zH → Prop} {x : Int32 ⊕ Nat} {a0 a1 : Int32} (hk : zT zm_128 [.ref 0, .int a0, .int a1] p (zh K I A w) (zkq (zRo x) S' X' I A w)) (he : ∀ e, x = .inr e → e ∈ [0, 1, 3]) (hz : ∀ v, x = .inl v → v = 0 ∨ v = 1) (H : ∀ K', zCA S' X' K' → Q (some (.int (zcd [0, 1, 3] x))) (zpx' p x) (zh K' I A (zow w x))) : zV none zm_269 0 (zent [.ref 0, .int a0, .int a1, .ref 85] zm_269.2.2.2.2.1) [] p (zh K I A w) Q := by
  change zV none zm_269 0 [some (.ref 0), some (.int a0), some (.int a1), some (.ref 85), none] [] p _ Q
  refine zV_go 5 [some (.ref 0), some (.int a0), some (.int a1), some (.ref 85), none] [.int a1, .int a0, .ref 0, .int (0 : Int32), .ref 85] 5 (fun f => rfl) ?_
  refine zV_ch rfl rfl rfl rfl rfl (zT_mono hk (fun r h' q => ?_))
  obtain ⟨rfl, K', hC', rfl⟩ := q
  cases x with
  | inl v =>
    refine Or.inl ⟨_, rfl, ?_⟩
    rcases hz v rfl with rfl | rfl
    · refine zV_go 16 [some (.ref 0), some (.int a0), some (.int a1), some (.ref 85), none] [.long (0 : Int32).toInt64, .int (0 : Int32), .ref 85] 2 (fun f => rfl) ?_
      exact zV_last (n := 1) (j := 0) rfl (by decide) rfl (by decide) zu_85 rfl (by decide) (zV_ret (some (.int 0)) 3 (fun f => rfl) (H K' hC'))
    · refine zV_go 16 [some (.ref 0), some (.int a0), some (.int a1), some (.ref 85), none] [.long (1 : Int32).toInt64, .int (0 : Int32), .ref 85] 3 (fun f => rfl) ?_
      exact zV_last (n := 1) (j := 0) rfl (by decide) rfl (by decide) zu_85 rfl (by decide) (zV_ret (some (.int 0)) 3 (fun f => rfl) (H K' hC'))
  | inr e =>
    have he := he e rfl
    rcases List.mem_cons.mp he with rfl | he
    · exact Or.inr ⟨_, (22, 4), rfl, rfl, rfl, zV_ret (some (.int 1)) 2 (fun f => rfl) (H K' hC')⟩
    rcases List.mem_cons.mp he with rfl | he
    · exact Or.inr ⟨_, (26, 4), rfl, rfl, rfl, zV_ret (some (.int 2)) 2 (fun f => rfl) (H K' hC')⟩
    rcases List.mem_cons.mp he with rfl | he
    · exact Or.inr ⟨_, (30, 4), rfl, rfl, rfl, zV_ret (some (.int 3)) 2 (fun f => rfl) (H K' hC')⟩
    cases he
theorem K_equi {S : zSs} {X : zXt} {K : zKt} {I : zIt} {A : zAt} {w : Nat → Int64} {p : Nat × Nat} {a0 a1 : Int32} (hw : zSw S) (h : zCA S X K) : zT zm_129 [.ref 0, .int a0, .int a1] p (zh K I A w) (zkq (zRo (zc_equi S a0 a1).1) (zc_equi S a0 a1).2 X I A w) := by
  obtain ⟨P, T, Y, rfl, hC, hY⟩ := h
  exact k_equi hw hC (fun T' h' h1 h2 => by obtain ⟨P', rfl⟩ := h2; exact ⟨rfl, _, ⟨P', T', Y, rfl, h1, hY⟩, rfl⟩)
theorem R_equi {c0 : Int32} {S : zSs} {X : zXt} {K : zKt} {I : zIt} {A : zAt} {w : Nat → Int64} {p : Nat × Nat} {a0 a1 : Int32} (hw : zSw S) (h : zRA S X c0 I A) : zT zm_221 [.ref 75, .int a0, .int a1] p (zh K I A w) (zrq (.inl (some (.int (zrv (zc_equi S a0 a1).1)))) (zc_equi S a0 a1).2 X (zcd [0, 1, 3] (zc_equi S a0 a1).1) K w) := by
  obtain ⟨rf, rs, bad, pr, pn, J, m, pa, pb, pc, vf, vs, B, rfl, rfl, hR, hJ⟩ := h
  exact r_equi hw hR (fun m' h' h1 h2 => by obtain ⟨rf', rs', bad', pr', pn', pa', pb', pc', vf', vs', rfl⟩ := h2; exact ⟨rfl, _, _, ⟨_, _, _, _, _, _, _, _, _, _, _, _, _, rfl, rfl, h1, hJ⟩, rfl⟩)
theorem w270 {S' : zSs} {X' : zXt} {K : zKt} {I : zIt} {A : zAt} {w : Nat → Int64} {p : Nat × Nat} {Q : Option Value → Nat × Nat → zH → Prop} {x : Int32 ⊕ Nat} {a0 a1 : Int32} (hk : zT zm_129 [.ref 0, .int a0, .int a1] p (zh K I A w) (zkq (zRo x) S' X' I A w)) (he : ∀ e, x = .inr e → e ∈ [0, 1, 3]) (hz : ∀ v, x = .inl v → v = 0 ∨ v = 1) (H : ∀ K', zCA S' X' K' → Q (some (.int (zcd [0, 1, 3] x))) (zpx' p x) (zh K' I A (zow w x))) : zV none zm_270 0 (zent [.ref 0, .int a0, .int a1, .ref 85] zm_270.2.2.2.2.1) [] p (zh K I A w) Q := by
  change zV none zm_270 0 [some (.ref 0), some (.int a0), some (.int a1), some (.ref 85), none] [] p _ Q
  refine zV_go 5 [some (.ref 0), some (.int a0), some (.int a1), some (.ref 85), none] [.int a1, .int a0, .ref 0, .int (0 : Int32), .ref 85] 5 (fun f => rfl) ?_
  refine zV_ch rfl rfl rfl rfl rfl (zT_mono hk (fun r h' q => ?_))
  obtain ⟨rfl, K', hC', rfl⟩ := q
  cases x with
  | inl v =>
    refine Or.inl ⟨_, rfl, ?_⟩
    rcases hz v rfl with rfl | rfl
    · refine zV_go 16 [some (.ref 0), some (.int a0), some (.int a1), some (.ref 85), none] [.long (0 : Int32).toInt64, .int (0 : Int32), .ref 85] 2 (fun f => rfl) ?_
      exact zV_last (n := 1) (j := 0) rfl (by decide) rfl (by decide) zu_85 rfl (by decide) (zV_ret (some (.int 0)) 3 (fun f => rfl) (H K' hC'))
    · refine zV_go 16 [some (.ref 0), some (.int a0), some (.int a1), some (.ref 85), none] [.long (1 : Int32).toInt64, .int (0 : Int32), .ref 85] 3 (fun f => rfl) ?_
      exact zV_last (n := 1) (j := 0) rfl (by decide) rfl (by decide) zu_85 rfl (by decide) (zV_ret (some (.int 0)) 3 (fun f => rfl) (H K' hC'))
  | inr e =>
    have he := he e rfl
    rcases List.mem_cons.mp he with rfl | he
    · exact Or.inr ⟨_, (22, 4), rfl, rfl, rfl, zV_ret (some (.int 1)) 2 (fun f => rfl) (H K' hC')⟩
    rcases List.mem_cons.mp he with rfl | he
    · exact Or.inr ⟨_, (26, 4), rfl, rfl, rfl, zV_ret (some (.int 2)) 2 (fun f => rfl) (H K' hC')⟩
    rcases List.mem_cons.mp he with rfl | he
    · exact Or.inr ⟨_, (30, 4), rfl, rfl, rfl, zV_ret (some (.int 3)) 2 (fun f => rfl) (H K' hC')⟩
    cases he
theorem K_quot {S : zSs} {X : zXt} {K : zKt} {I : zIt} {A : zAt} {w : Nat → Int64} {p : Nat × Nat} {a0 a1 a2 a3 : Int32} (h : zCA S X K) : zT zm_130 [.ref 0, .int a0, .int a1, .int a2, .int a3] p (zh K I A w) (zkq (zRo (zc_quot S a0 a1 a2 a3).1) (zc_quot S a0 a1 a2 a3).2 X I A w) := by
  obtain ⟨P, T, Y, rfl, hC, hY⟩ := h
  exact k_quot hC (fun T' h' h1 h2 => by obtain ⟨P', rfl⟩ := h2; exact ⟨rfl, _, ⟨P', T', Y, rfl, h1, hY⟩, rfl⟩)
theorem R_quot {c0 : Int32} {S : zSs} {X : zXt} {K : zKt} {I : zIt} {A : zAt} {w : Nat → Int64} {p : Nat × Nat} {a0 a1 a2 a3 : Int32} (h : zRA S X c0 I A) : zT zm_222 [.ref 75, .int a0, .int a1, .int a2, .int a3] p (zh K I A w) (zrq (.inl (some (.int (zrv (zc_quot S a0 a1 a2 a3).1)))) (zc_quot S a0 a1 a2 a3).2 X (zcd [2, 3] (zc_quot S a0 a1 a2 a3).1) K w) := by
  obtain ⟨rf, rs, bad, pr, pn, J, m, pa, pb, pc, vf, vs, B, rfl, rfl, hR, hJ⟩ := h
  exact r_quot hR (fun m' h' h1 h2 => by obtain ⟨rf', rs', bad', pr', pn', pa', pb', pc', vf', vs', rfl⟩ := h2; exact ⟨rfl, _, _, ⟨_, _, _, _, _, _, _, _, _, _, _, _, _, rfl, rfl, h1, hJ⟩, rfl⟩)
theorem w271 {S' : zSs} {X' : zXt} {K : zKt} {I : zIt} {A : zAt} {w : Nat → Int64} {p : Nat × Nat} {Q : Option Value → Nat × Nat → zH → Prop} {x : Int32 ⊕ Nat} {a0 a1 a2 a3 : Int32} (hk : zT zm_130 [.ref 0, .int a0, .int a1, .int a2, .int a3] p (zh K I A w) (zkq (zRo x) S' X' I A w)) (he : ∀ e, x = .inr e → e ∈ [2, 3]) (H : ∀ K', zCA S' X' K' → Q (some (.int (zcd [2, 3] x))) (zpx' p x) (zh K' I A (zow w x))) : zV none zm_271 0 (zent [.ref 0, .int a0, .int a1, .int a2, .int a3, .ref 85] zm_271.2.2.2.2.1) [] p (zh K I A w) Q := by
  change zV none zm_271 0 [some (.ref 0), some (.int a0), some (.int a1), some (.int a2), some (.int a3), some (.ref 85), none] [] p _ Q
  refine zV_go 9 [some (.ref 0), some (.int a0), some (.int a1), some (.int a2), some (.int a3), some (.ref 85), none] [.int a3, .int a2, .int a1, .int a0, .ref 0, .int (0 : Int32), .ref 85] 7 (fun f => rfl) ?_
  refine zV_ch rfl rfl rfl rfl rfl (zT_mono hk (fun r h' q => ?_))
  obtain ⟨rfl, K', hC', rfl⟩ := q
  cases x with
  | inl v =>
    refine Or.inl ⟨_, rfl, ?_⟩
    refine zV_go 13 [some (.ref 0), some (.int a0), some (.int a1), some (.int a2), some (.int a3), some (.ref 85), none] [.long v.toInt64, .int (0 : Int32), .ref 85] 1 (fun f => rfl) ?_
    exact zV_last (n := 1) (j := 0) rfl (by decide) rfl (by decide) zu_85 rfl (by decide) (zV_ret (some (.int 0)) 3 (fun f => rfl) (H K' hC'))
  | inr e =>
    have he := he e rfl
    rcases List.mem_cons.mp he with rfl | he
    · exact Or.inr ⟨_, (19, 6), rfl, rfl, rfl, zV_ret (some (.int 1)) 2 (fun f => rfl) (H K' hC')⟩
    rcases List.mem_cons.mp he with rfl | he
    · exact Or.inr ⟨_, (23, 6), rfl, rfl, rfl, zV_ret (some (.int 2)) 2 (fun f => rfl) (H K' hC')⟩
    cases he
theorem K_gcd {S : zSs} {X : zXt} {K : zKt} {I : zIt} {A : zAt} {w : Nat → Int64} {p : Nat × Nat} {a0 a1 a2 a3 a4 a5 : Int32} (h : zCA S X K) : zT zm_131 [.ref 0, .int a0, .int a1, .int a2, .int a3, .int a4, .int a5] p (zh K I A w) (zkq (zRo (zc_gcd S a0 a1 a2 a3 a4 a5).1) (zc_gcd S a0 a1 a2 a3 a4 a5).2 X I A w) := by
  obtain ⟨P, T, Y, rfl, hC, hY⟩ := h
  exact k_gcd hC (fun T' h' h1 h2 => by obtain ⟨P', rfl⟩ := h2; exact ⟨rfl, _, ⟨P', T', Y, rfl, h1, hY⟩, rfl⟩)
theorem R_gcd {c0 : Int32} {S : zSs} {X : zXt} {K : zKt} {I : zIt} {A : zAt} {w : Nat → Int64} {p : Nat × Nat} {a0 a1 a2 a3 a4 a5 : Int32} (h : zRA S X c0 I A) : zT zm_223 [.ref 75, .int a0, .int a1, .int a2, .int a3, .int a4, .int a5] p (zh K I A w) (zrq (.inl (some (.int (zrv (zc_gcd S a0 a1 a2 a3 a4 a5).1)))) (zc_gcd S a0 a1 a2 a3 a4 a5).2 X (zcd [2] (zc_gcd S a0 a1 a2 a3 a4 a5).1) K w) := by
  obtain ⟨rf, rs, bad, pr, pn, J, m, pa, pb, pc, vf, vs, B, rfl, rfl, hR, hJ⟩ := h
  exact r_gcd hR (fun m' h' h1 h2 => by obtain ⟨rf', rs', bad', pr', pn', pa', pb', pc', vf', vs', rfl⟩ := h2; exact ⟨rfl, _, _, ⟨_, _, _, _, _, _, _, _, _, _, _, _, _, rfl, rfl, h1, hJ⟩, rfl⟩)
theorem w272 {S' : zSs} {X' : zXt} {K : zKt} {I : zIt} {A : zAt} {w : Nat → Int64} {p : Nat × Nat} {Q : Option Value → Nat × Nat → zH → Prop} {x : Int32 ⊕ Nat} {a0 a1 a2 a3 a4 a5 : Int32} (hk : zT zm_131 [.ref 0, .int a0, .int a1, .int a2, .int a3, .int a4, .int a5] p (zh K I A w) (zkq (zRo x) S' X' I A w)) (he : ∀ e, x = .inr e → e ∈ [2]) (H : ∀ K', zCA S' X' K' → Q (some (.int (zcd [2] x))) (zpx' p x) (zh K' I A (zow w x))) : zV none zm_272 0 (zent [.ref 0, .int a0, .int a1, .int a2, .int a3, .int a4, .int a5, .ref 85] zm_272.2.2.2.2.1) [] p (zh K I A w) Q := by
  change zV none zm_272 0 [some (.ref 0), some (.int a0), some (.int a1), some (.int a2), some (.int a3), some (.int a4), some (.int a5), some (.ref 85), none] [] p _ Q
  refine zV_go 13 [some (.ref 0), some (.int a0), some (.int a1), some (.int a2), some (.int a3), some (.int a4), some (.int a5), some (.ref 85), none] [.int a5, .int a4, .int a3, .int a2, .int a1, .int a0, .ref 0, .int (0 : Int32), .ref 85] 9 (fun f => rfl) ?_
  refine zV_ch rfl rfl rfl rfl rfl (zT_mono hk (fun r h' q => ?_))
  obtain ⟨rfl, K', hC', rfl⟩ := q
  cases x with
  | inl v =>
    refine Or.inl ⟨_, rfl, ?_⟩
    refine zV_go 17 [some (.ref 0), some (.int a0), some (.int a1), some (.int a2), some (.int a3), some (.int a4), some (.int a5), some (.ref 85), none] [.long v.toInt64, .int (0 : Int32), .ref 85] 1 (fun f => rfl) ?_
    exact zV_last (n := 1) (j := 0) rfl (by decide) rfl (by decide) zu_85 rfl (by decide) (zV_ret (some (.int 0)) 3 (fun f => rfl) (H K' hC'))
  | inr e =>
    have he := he e rfl
    rcases List.mem_cons.mp he with rfl | he
    · exact Or.inr ⟨_, (23, 8), rfl, rfl, rfl, zV_ret (some (.int 1)) 2 (fun f => rfl) (H K' hC')⟩
    cases he
theorem K_type {S : zSs} {X : zXt} {K : zKt} {I : zIt} {A : zAt} {w : Nat → Int64} {p : Nat × Nat} {a0 : Int32} (hX : zXw X) (h : zCA S X K) : zT zm_132 [.ref 0, .int a0] p (zh K I A w) (zkq (zRo (zt_type X a0).1) S (zt_type X a0).2 I A w) :=
  k_type hX h (fun K' h' => ⟨rfl, K', h', rfl⟩)
theorem R_type {c0 : Int32} {S : zSs} {X : zXt} {K : zKt} {I : zIt} {A : zAt} {w : Nat → Int64} {p : Nat × Nat} {a0 : Int32} (hX : zXw X) (h : zRA S X c0 I A) : zT zm_224 [.ref 75, .int a0] p (zh K I A w) (zrq (.inl (some (.int (zrv (zt_type X a0).1)))) S (zt_type X a0).2 (zcd [2, 1] (zt_type X a0).1) K w) :=
  r_type hX h (fun I' A' h' => ⟨rfl, I', A', h', rfl⟩)
theorem w273 {S' : zSs} {X' : zXt} {K : zKt} {I : zIt} {A : zAt} {w : Nat → Int64} {p : Nat × Nat} {Q : Option Value → Nat × Nat → zH → Prop} {x : Int32 ⊕ Nat} {a0 : Int32} (hk : zT zm_132 [.ref 0, .int a0] p (zh K I A w) (zkq (zRo x) S' X' I A w)) (he : ∀ e, x = .inr e → e ∈ [2, 1]) (H : ∀ K', zCA S' X' K' → Q (some (.int (zcd [2, 1] x))) (zpx' p x) (zh K' I A (zow w x))) : zV none zm_273 0 (zent [.ref 0, .int a0, .ref 85] zm_273.2.2.2.2.1) [] p (zh K I A w) Q := by
  change zV none zm_273 0 [some (.ref 0), some (.int a0), some (.ref 85), none] [] p _ Q
  refine zV_go 4 [some (.ref 0), some (.int a0), some (.ref 85), none] [.int a0, .ref 0, .int (0 : Int32), .ref 85] 4 (fun f => rfl) ?_
  refine zV_ch rfl rfl rfl rfl rfl (zT_mono hk (fun r h' q => ?_))
  obtain ⟨rfl, K', hC', rfl⟩ := q
  cases x with
  | inl v =>
    refine Or.inl ⟨_, rfl, ?_⟩
    refine zV_go 8 [some (.ref 0), some (.int a0), some (.ref 85), none] [.long v.toInt64, .int (0 : Int32), .ref 85] 1 (fun f => rfl) ?_
    exact zV_last (n := 1) (j := 0) rfl (by decide) rfl (by decide) zu_85 rfl (by decide) (zV_ret (some (.int 0)) 3 (fun f => rfl) (H K' hC'))
  | inr e =>
    have he := he e rfl
    rcases List.mem_cons.mp he with rfl | he
    · exact Or.inr ⟨_, (13, 3), rfl, rfl, rfl, zV_ret (some (.int 1)) 2 (fun f => rfl) (H K' hC')⟩
    rcases List.mem_cons.mp he with rfl | he
    · exact Or.inr ⟨_, (16, 3), rfl, rfl, rfl, zV_ret (some (.int 2)) 2 (fun f => rfl) (H K' hC')⟩
    cases he
theorem K_fault {S : zSs} {X : zXt} {K : zKt} {I : zIt} {A : zAt} {w : Nat → Int64} {p : Nat × Nat} {a0 : Int32} (hX : zXw X) (h : zCA S X K) : zT zm_133 [.ref 0, .int a0] p (zh K I A w) (zkq (zRo (zt_fault X a0)) S X I A w) :=
  k_fault hX h (fun K' h' => ⟨rfl, K', h', rfl⟩)
theorem R_fault {c0 : Int32} {S : zSs} {X : zXt} {K : zKt} {I : zIt} {A : zAt} {w : Nat → Int64} {p : Nat × Nat} {a0 : Int32} (hX : zXw X) (h : zRA S X c0 I A) : zT zm_226 [.ref 75, .int a0] p (zh K I A w) (zrq (.inl (some (.int (zrv (zt_fault X a0))))) S X (zcd [2] (zt_fault X a0)) K w) :=
  r_fault hX h (fun I' A' h' => ⟨rfl, I', A', h', rfl⟩)
theorem w274 {S' : zSs} {X' : zXt} {K : zKt} {I : zIt} {A : zAt} {w : Nat → Int64} {p : Nat × Nat} {Q : Option Value → Nat × Nat → zH → Prop} {x : Int32 ⊕ Nat} {a0 : Int32} (hk : zT zm_133 [.ref 0, .int a0] p (zh K I A w) (zkq (zRo x) S' X' I A w)) (he : ∀ e, x = .inr e → e ∈ [2]) (H : ∀ K', zCA S' X' K' → Q (some (.int (zcd [2] x))) (zpx' p x) (zh K' I A (zow w x))) : zV none zm_274 0 (zent [.ref 0, .int a0, .ref 85] zm_274.2.2.2.2.1) [] p (zh K I A w) Q := by
  change zV none zm_274 0 [some (.ref 0), some (.int a0), some (.ref 85), none] [] p _ Q
  refine zV_go 4 [some (.ref 0), some (.int a0), some (.ref 85), none] [.int a0, .ref 0, .int (0 : Int32), .ref 85] 4 (fun f => rfl) ?_
  refine zV_ch rfl rfl rfl rfl rfl (zT_mono hk (fun r h' q => ?_))
  obtain ⟨rfl, K', hC', rfl⟩ := q
  cases x with
  | inl v =>
    refine Or.inl ⟨_, rfl, ?_⟩
    refine zV_go 8 [some (.ref 0), some (.int a0), some (.ref 85), none] [.long v.toInt64, .int (0 : Int32), .ref 85] 1 (fun f => rfl) ?_
    exact zV_last (n := 1) (j := 0) rfl (by decide) rfl (by decide) zu_85 rfl (by decide) (zV_ret (some (.int 0)) 3 (fun f => rfl) (H K' hC'))
  | inr e =>
    have he := he e rfl
    rcases List.mem_cons.mp he with rfl | he
    · exact Or.inr ⟨_, (13, 3), rfl, rfl, rfl, zV_ret (some (.int 1)) 2 (fun f => rfl) (H K' hC')⟩
    cases he
theorem K_parse {S : zSs} {X : zXt} {K : zKt} {I : zIt} {A : zAt} {w : Nat → Int64} {p : Nat × Nat} {a0 a1 : Int32} (hX : zXw X) (h : zCA S X K) : zT zm_134 [.ref 0, .int a0, .int a1] p (zh K I A w) (zkq (zRo (zt_parse S X a0 a1).1) (zt_parse S X a0 a1).2.1 (zt_parse S X a0 a1).2.2 I A w) :=
  k_parse hX h (fun K' h' => ⟨rfl, K', h', rfl⟩)
theorem R_parse {c0 : Int32} {S : zSs} {X : zXt} {K : zKt} {I : zIt} {A : zAt} {w : Nat → Int64} {p : Nat × Nat} {a0 a1 : Int32} (hw : zSw S) (hX : zXw X) (h : zRA S X c0 I A) : zT zm_239 [.ref 75, .int a0, .int a1] p (zh K I A w) (zrq (.inl (some (.int (zrv (zt_parse S X a0 a1).1)))) (zt_parse S X a0 a1).2.1 (zt_parse S X a0 a1).2.2 (zcd [0, 2, 1] (zt_parse S X a0 a1).1) K w) :=
  r_parse hw hX h (fun I' A' h' => ⟨rfl, I', A', h', rfl⟩)
theorem w275 {S' : zSs} {X' : zXt} {K : zKt} {I : zIt} {A : zAt} {w : Nat → Int64} {p : Nat × Nat} {Q : Option Value → Nat × Nat → zH → Prop} {x : Int32 ⊕ Nat} {a0 a1 : Int32} (hk : zT zm_134 [.ref 0, .int a0, .int a1] p (zh K I A w) (zkq (zRo x) S' X' I A w)) (he : ∀ e, x = .inr e → e ∈ [0, 2, 1]) (H : ∀ K', zCA S' X' K' → Q (some (.int (zcd [0, 2, 1] x))) (zpx' p x) (zh K' I A (zow w x))) : zV none zm_275 0 (zent [.ref 0, .int a0, .int a1, .ref 85] zm_275.2.2.2.2.1) [] p (zh K I A w) Q := by
  change zV none zm_275 0 [some (.ref 0), some (.int a0), some (.int a1), some (.ref 85), none] [] p _ Q
  refine zV_go 5 [some (.ref 0), some (.int a0), some (.int a1), some (.ref 85), none] [.int a1, .int a0, .ref 0, .int (0 : Int32), .ref 85] 5 (fun f => rfl) ?_
  refine zV_ch rfl rfl rfl rfl rfl (zT_mono hk (fun r h' q => ?_))
  obtain ⟨rfl, K', hC', rfl⟩ := q
  cases x with
  | inl v =>
    refine Or.inl ⟨_, rfl, ?_⟩
    refine zV_go 9 [some (.ref 0), some (.int a0), some (.int a1), some (.ref 85), none] [.long v.toInt64, .int (0 : Int32), .ref 85] 1 (fun f => rfl) ?_
    exact zV_last (n := 1) (j := 0) rfl (by decide) rfl (by decide) zu_85 rfl (by decide) (zV_ret (some (.int 0)) 3 (fun f => rfl) (H K' hC'))
  | inr e =>
    have he := he e rfl
    rcases List.mem_cons.mp he with rfl | he
    · exact Or.inr ⟨_, (15, 4), rfl, rfl, rfl, zV_ret (some (.int 1)) 2 (fun f => rfl) (H K' hC')⟩
    rcases List.mem_cons.mp he with rfl | he
    · exact Or.inr ⟨_, (19, 4), rfl, rfl, rfl, zV_ret (some (.int 2)) 2 (fun f => rfl) (H K' hC')⟩
    rcases List.mem_cons.mp he with rfl | he
    · exact Or.inr ⟨_, (23, 4), rfl, rfl, rfl, zV_ret (some (.int 3)) 2 (fun f => rfl) (H K' hC')⟩
    cases he
theorem K_write {S : zSs} {X : zXt} {K : zKt} {I : zIt} {A : zAt} {w : Nat → Int64} {p : Nat × Nat} {a0 : Int32} (hw : zSw S) (h : zCA S X K) : zT zm_135 [.ref 0, .int a0] p (zh K I A w) (zkq (zRo (zt_write S X a0).1) S (zt_write S X a0).2 I A w) :=
  k_write hw h (fun K' h' => ⟨rfl, K', h', rfl⟩)
theorem R_write {c0 : Int32} {S : zSs} {X : zXt} {K : zKt} {I : zIt} {A : zAt} {w : Nat → Int64} {p : Nat × Nat} {a0 : Int32} (hw : zSw S) (h : zRA S X c0 I A) : zT zm_240 [.ref 75, .int a0] p (zh K I A w) (zrq (.inl (some (.int (zrv (zt_write S X a0).1)))) S (zt_write S X a0).2 (zcd [0, 1] (zt_write S X a0).1) K w) :=
  r_write hw h (fun I' A' h' => ⟨rfl, I', A', h', rfl⟩)
theorem w276 {S' : zSs} {X' : zXt} {K : zKt} {I : zIt} {A : zAt} {w : Nat → Int64} {p : Nat × Nat} {Q : Option Value → Nat × Nat → zH → Prop} {x : Int32 ⊕ Nat} {a0 : Int32} (hk : zT zm_135 [.ref 0, .int a0] p (zh K I A w) (zkq (zRo x) S' X' I A w)) (he : ∀ e, x = .inr e → e ∈ [0, 1]) (H : ∀ K', zCA S' X' K' → Q (some (.int (zcd [0, 1] x))) (zpx' p x) (zh K' I A (zow w x))) : zV none zm_276 0 (zent [.ref 0, .int a0, .ref 85] zm_276.2.2.2.2.1) [] p (zh K I A w) Q := by
  change zV none zm_276 0 [some (.ref 0), some (.int a0), some (.ref 85), none] [] p _ Q
  refine zV_go 4 [some (.ref 0), some (.int a0), some (.ref 85), none] [.int a0, .ref 0, .int (0 : Int32), .ref 85] 4 (fun f => rfl) ?_
  refine zV_ch rfl rfl rfl rfl rfl (zT_mono hk (fun r h' q => ?_))
  obtain ⟨rfl, K', hC', rfl⟩ := q
  cases x with
  | inl v =>
    refine Or.inl ⟨_, rfl, ?_⟩
    refine zV_go 8 [some (.ref 0), some (.int a0), some (.ref 85), none] [.long v.toInt64, .int (0 : Int32), .ref 85] 1 (fun f => rfl) ?_
    exact zV_last (n := 1) (j := 0) rfl (by decide) rfl (by decide) zu_85 rfl (by decide) (zV_ret (some (.int 0)) 3 (fun f => rfl) (H K' hC'))
  | inr e =>
    have he := he e rfl
    rcases List.mem_cons.mp he with rfl | he
    · exact Or.inr ⟨_, (13, 3), rfl, rfl, rfl, zV_ret (some (.int 1)) 2 (fun f => rfl) (H K' hC')⟩
    rcases List.mem_cons.mp he with rfl | he
    · exact Or.inr ⟨_, (16, 3), rfl, rfl, rfl, zV_ret (some (.int 2)) 2 (fun f => rfl) (H K' hC')⟩
    cases he
theorem K_written {S : zSs} {X : zXt} {K : zKt} {I : zIt} {A : zAt} {w : Nat → Int64} {p : Nat × Nat} {a0 : Int32} (hX : zXw X) (h : zCA S X K) : zT zm_136 [.ref 0, .int a0] p (zh K I A w) (zkq (zRo (zt_written X a0)) S X I A w) :=
  k_written hX h (fun K' h' => ⟨rfl, K', h', rfl⟩)
theorem R_written {c0 : Int32} {S : zSs} {X : zXt} {K : zKt} {I : zIt} {A : zAt} {w : Nat → Int64} {p : Nat × Nat} {a0 : Int32} (hX : zXw X) (h : zRA S X c0 I A) : zT zm_245 [.ref 75, .int a0] p (zh K I A w) (zrq (.inl (some (.int (zrv (zt_written X a0))))) S X (zcd [0] (zt_written X a0)) K w) :=
  r_written hX h (fun I' A' h' => ⟨rfl, I', A', h', rfl⟩)
theorem w277 {S' : zSs} {X' : zXt} {K : zKt} {I : zIt} {A : zAt} {w : Nat → Int64} {p : Nat × Nat} {Q : Option Value → Nat × Nat → zH → Prop} {x : Int32 ⊕ Nat} {a0 : Int32} (hk : zT zm_136 [.ref 0, .int a0] p (zh K I A w) (zkq (zRo x) S' X' I A w)) (he : ∀ e, x = .inr e → e ∈ [0]) (H : ∀ K', zCA S' X' K' → Q (some (.int (zcd [0] x))) (zpx' p x) (zh K' I A (zow w x))) : zV none zm_277 0 (zent [.ref 0, .int a0, .ref 85] zm_277.2.2.2.2.1) [] p (zh K I A w) Q := by
  change zV none zm_277 0 [some (.ref 0), some (.int a0), some (.ref 85), none] [] p _ Q
  refine zV_go 4 [some (.ref 0), some (.int a0), some (.ref 85), none] [.int a0, .ref 0, .int (0 : Int32), .ref 85] 4 (fun f => rfl) ?_
  refine zV_ch rfl rfl rfl rfl rfl (zT_mono hk (fun r h' q => ?_))
  obtain ⟨rfl, K', hC', rfl⟩ := q
  cases x with
  | inl v =>
    refine Or.inl ⟨_, rfl, ?_⟩
    refine zV_go 8 [some (.ref 0), some (.int a0), some (.ref 85), none] [.long v.toInt64, .int (0 : Int32), .ref 85] 1 (fun f => rfl) ?_
    exact zV_last (n := 1) (j := 0) rfl (by decide) rfl (by decide) zu_85 rfl (by decide) (zV_ret (some (.int 0)) 3 (fun f => rfl) (H K' hC'))
  | inr e =>
    have he := he e rfl
    rcases List.mem_cons.mp he with rfl | he
    · exact Or.inr ⟨_, (13, 3), rfl, rfl, rfl, zV_ret (some (.int 1)) 2 (fun f => rfl) (H K' hC')⟩
    cases he
