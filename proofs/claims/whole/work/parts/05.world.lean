/-! the abstract machine's heap as cells of the machine's: place i lies at base + i; b: the script's cell -/
def zcv (b base : Nat) (v : Value) : Value := match v with
  | .ref i => .ref (base + i)
  | .retAddr _ => .ref b
  | v => v
theorem zcv_cat (b base : Nat) (v : Value) : (zcv b base v).category = v.category := by cases v <;> rfl
def zca (base : Nat) (a : vp_A) : vp_A := match a with
  | (n, .inl f) => (n, .inl f)
  | (n, .inr (.inl f)) => (n, .inr (.inl f))
  | (n, .inr (.inr (.inl f))) => (n, .inr (.inr (.inl f)))
  | (n, .inr (.inr (.inr (.inl f)))) => (n, .inr (.inr (.inr (.inl f))))
  | (n, .inr (.inr (.inr (.inr f)))) => (n, .inr (.inr (.inr (.inr (fun j => (f j).map (fun i => base + i))))))
theorem zca_1 (base : Nat) (a : vp_A) : (zca base a).1 = a.1 := by
  obtain ⟨n, f | f | f | f | f⟩ := a <;> rfl
def zcc (b base : Nat) (cA : Nat → ClassId) (c : zC) : va_E := match c with
  | .inl q => .inl (cA q.1, zca base q.2)
  | .inr q => .inr (q.1, q.2.map (zcv b base))
def zw (b base : Nat) (cA : Nat → ClassId) (n : Nat) (h : zH) : va_W := (List.range n).map (fun i => (base + i, zcc b base cA (h i)))
theorem zw_get {b base : Nat} {cA : Nat → ClassId} {n : Nat} {h : zH} {i : Nat} (hi : i < n) : (zw b base cA n h)[i]? = some (base + i, zcc b base cA (h i)) := by
  simp [zw, hi]
theorem zw_inv {b base : Nat} {cA : Nat → ClassId} {n : Nat} {h : zH} {i : Nat} {q : Nat × va_E} (hq : (zw b base cA n h)[i]? = some q) : i < n ∧ q = (base + i, zcc b base cA (h i)) := by
  have hi : i < n := by
    have := (List.getElem?_eq_some_iff.mp hq).1
    simpa [zw] using this
  rw [zw_get hi] at hq
  exact ⟨hi, (Option.some.inj hq).symm⟩
theorem zw_set {b base : Nat} {cA : Nat → ClassId} {n : Nat} {h : zH} {i : Nat} {c : zC} {e : va_E} (he : e = zcc b base cA c) : (zw b base cA n h).set i (base + i, e) = zw b base cA n (va_up h i c) := by
  subst he
  apply List.ext_getElem?
  intro j
  by_cases hj : j < n
  · by_cases hij : i = j
    · subst hij
      rw [List.getElem?_set_self (by simpa [zw] using hj), zw_get hj]
      simp [va_up]
    · rw [List.getElem?_set_ne hij, zw_get hj, zw_get hj]
      simp [va_up, Ne.symm hij]
  · rw [List.getElem?_eq_none (by simpa [zw] using hj), List.getElem?_eq_none (by simpa [zw] using hj)]
theorem zw_push {b base : Nat} {cA : Nat → ClassId} {n : Nat} {h : zH} {c : zC} {e : va_E} {q : Nat} (hq : q = base + n) (he : e = zcc b base cA c) : zw b base cA n h ++ [(q, e)] = zw b base cA (n + 1) (va_up h n c) := by
  subst he
  subst hq
  apply List.ext_getElem?
  intro j
  rcases Nat.lt_trichotomy j n with hj | hj | hj
  · rw [List.getElem?_append_left (by simpa [zw] using hj), zw_get hj, zw_get (by omega)]
    simp [va_up, Nat.ne_of_lt hj]
  · subst hj
    rw [List.getElem?_append_right (by simp [zw]), zw_get (by omega)]
    simp [zw, va_up]
  · rw [List.getElem?_eq_none (by simp [zw]; omega), List.getElem?_eq_none (by simp [zw]; omega)]
theorem zw_D {b base : Nat} {cA : Nat → ClassId} {n : Nat} {h : zH} : va_D (fun q => base ≤ q) (zw b base cA n h) := by
  refine ⟨fun i j p q hp hq e => ?_, fun k q hk => ?_⟩
  · obtain ⟨-, rfl⟩ := zw_inv hp
    obtain ⟨-, rfl⟩ := zw_inv hq
    dsimp only at e
    omega
  · obtain ⟨-, rfl⟩ := zw_inv hk
    exact Nat.le_add_right _ _
def ztys (cA : Nat → ClassId) : List (ClassId × FieldType) := [(cA 0, .int), (cA 1, .long), (cA 2, .object "RingMatrices$Matrix"), (cA 3, .object "RingMatrices$Ring")]
/-- what a method finds and never changes -/
def zSta (D : va_G) (cA : Nat → ClassId) (base : Nat) (U : State) : Prop :=
  va_K D zcl (ztys cA) U ∧ vx_Zq Bundle.tN "UNASSIGNED_STACK" Bundle.steD (fun q => base ≤ q) U U.heap ∧ vx_Zq Bundle.tN "SUPPRESSED_SENTINEL" Bundle.listD (fun q => base ≤ q) U U.heap ∧
  (∀ w ∈ zNws, va_Nw w U) ∧ (∀ q ∈ zSTR, ∃ sa, vk_R q.1 q.2.1 q.2.2 sa U) ∧ (∀ e e' : Nat, e ≤ 3 → e' ≤ 3 → e ≠ e' → va_Nc (zexn e) (zexn e') U) ∧ va_AO "RingMatrices$Matrix" U ∧ va_AO "RingMatrices$Ring" U
theorem zNw_warm {s U : State} (hW : s.WarmedH U.vm) {w : Cond} (hw : zNk w = true) (h : va_Nw w s) : va_Nw w U := by
  cases w <;> first | exact va_Nw.warmF hW h | exact va_Nw.warmD hW h | exact va_Nw.warmC hW h | (simp [zNk] at hw)
theorem zNc_moved {C T : String} {u U : State} (hvm : u.vm.Alike U.vm) (h : va_Nc C T u) : va_Nc C T U := by
  obtain ⟨c, t, h1, h2, h3⟩ := h
  exact ⟨c, t, by rw [hvm.findClass]; exact h1, by rw [hvm.findClass]; exact h2, by rw [hvm.assignable]; exact h3⟩
theorem zSta_warm {D : va_G} {cA : Nat → ClassId} {base : Nat} {s U : State} (hW : s.WarmedH U.vm) (hq : ∀ a : Nat, a < s.heap.size → ¬ base ≤ a → U.heap[a]? = s.heap[a]?) (h : zSta D cA base s) : zSta D cA base U := by
  obtain ⟨h1, h2, h3, h4, h5, h6, h7, h8⟩ := h
  refine ⟨va_K.moved hW.alike h1, vx_Zq.moved hW.alike (h2.kept hq), vx_Zq.moved hW.alike (h3.kept hq), fun w hw => zNw_warm hW (List.mem_filter.mp hw).2 (h4 w hw), fun q hq => ?_, fun e e' a1 a2 a3 => zNc_moved hW.alike (h6 e e' a1 a2 a3), va_AO.moved hW.alike h7, va_AO.moved hW.alike h8⟩
  obtain ⟨sa, hs⟩ := h5 q hq
  exact ⟨sa, vk_R.warm hW hs⟩
theorem zSta_calling {D : va_G} {cA : Nat → ClassId} {base : Nat} {U : State} {g : JFrame} {mk : MethodId} {a : Array Value} (h : zSta D cA base U) : zSta D cA base (U.calling g mk a) :=
  zSta_warm (s := U) (U := U.calling g mk a) (State.WarmedH.refl U) (fun _ _ _ => rfl) h
/-- what a method finds and changes -/
def zDy (D : va_G) (cA : Nat → ClassId) (b base : Nat) (al : Bool) (g : zG) (h : zH) (H : Heap) : Prop := va_P D zcl (zw b base cA g.1 h) H ∧ (al = true → H.size = base + g.1)
/-- the locals that are known -/
def zlv (b base : Nat) (ls : Array Slot) (nL : Nat) (L : zL) : Prop := ls.size = nL ∧ L.length = nL ∧ lv_wf ls ∧ ∀ (i : Nat) (v : Value), L[i]? = some (some v) → ls[i]? = some (.val (zcv b base v))
def zpl (b base : Nat) (L : zL) : List (Nat × Value) := (List.range L.length).filterMap (fun i => match L[i]? with
  | some (some v) => some (i, zcv b base v)
  | _ => none)
theorem zpl_mem {b base : Nat} {L : zL} {i : Nat} {w : Value} : (i, w) ∈ zpl b base L ↔ ∃ v, L[i]? = some (some v) ∧ w = zcv b base v := by
  unfold zpl
  rw [List.mem_filterMap]
  constructor
  · rintro ⟨j, -, hj⟩
    split at hj
    · rename_i v hv
      cases hj
      exact ⟨v, hv, rfl⟩
    · cases hj
  · rintro ⟨v, hv, rfl⟩
    exact ⟨i, List.mem_range.mpr (List.getElem?_eq_some_iff.mp hv).1, by rw [hv]⟩
theorem zlv_has {b base : Nat} {ls : Array Slot} {nL : Nat} {L : zL} (h : zlv b base ls nL L) : lv_has ls nL (zpl b base L) := by
  refine ⟨h.1, h.2.2.1, fun q hq => ?_⟩
  obtain ⟨i, w⟩ := q
  obtain ⟨v, hv, rfl⟩ := zpl_mem.mp hq
  exact h.2.2.2 i v hv
theorem zkl_len (L : zL) (k : Nat) : (zkl L k).length = L.length := by
  unfold zkl
  split
  · rfl
  · split
    · cases Nat.beq _ 2 <;> simp
    · rfl
theorem zkl_get {L : zL} {k i : Nat} {v : Value} (h : (zkl L k)[i]? = some (some v)) : L[i]? = some (some v) ∧ (i + 1 = k → v.category ≠ 2) := by
  unfold zkl at h
  split at h
  · exact ⟨h, fun e => by omega⟩
  · rename_i j
    split at h
    · rename_i w hw
      cases hc : Nat.beq w.category 2 with
      | true =>
        rw [hc] at h
        simp only [cond_true] at h
        by_cases hij : j = i
        · subst hij
          rw [List.getElem?_set_self (List.getElem?_eq_some_iff.mp hw).1] at h
          cases h
        · rw [List.getElem?_set_ne hij] at h
          exact ⟨h, fun e => by omega⟩
      | false =>
        rw [hc] at h
        simp only [cond_false] at h
        refine ⟨h, fun e => ?_⟩
        have hij : i = j := by omega
        subst hij
        rw [hw] at h
        cases h
        intro h2
        rw [h2] at hc
        cases hc
    · rename_i hn
      refine ⟨h, fun e => ?_⟩
      have hij : i = j := by omega
      subst hij
      exact absurd h (hn v)
theorem zst1_ok {b base : Nat} {ls ls' : Array Slot} {nL : Nat} {L : zL} {k : Nat} {v : Value} (h : zlv b base ls nL L)
    (h' : lv_has ls' nL ((k, zcv b base v) :: (zpl b base L).filter (fun q => !(q.1 == k) && !(q.1 + 1 == k && q.2.category == 2)))) : zlv b base ls' nL (zst1 L k v) := by
  refine ⟨h'.1, by rw [zst1, List.length_set, zkl_len]; exact h.2.1, h'.2.1, fun i w hw => ?_⟩
  unfold zst1 at hw
  by_cases hik : k = i
  · subst hik
    have hl : k < (zkl L k).length := by
      have := (List.getElem?_eq_some_iff.mp hw).1
      simpa using this
    rw [List.getElem?_set_self hl] at hw
    cases hw
    exact h'.2.2 _ List.mem_cons_self
  · rw [List.getElem?_set_ne hik] at hw
    obtain ⟨h1, h2⟩ := zkl_get hw
    refine h'.2.2 (i, zcv b base w) (List.mem_cons_of_mem _ (List.mem_filter.mpr ⟨zpl_mem.mpr ⟨w, h1, rfl⟩, ?_⟩))
    have e1 : (i == k) = false := by simp [Ne.symm hik]
    by_cases hs : i + 1 = k
    · have := h2 hs
      simp [e1, zcv_cat, this]
    · simp [e1, hs]
theorem zst0_ok {b base : Nat} {ls ls' : Array Slot} {nL : Nat} {L : zL} {k : Nat} {x : Value} (h : zlv b base ls nL L)
    (h' : lv_has ls' nL ((k, x) :: (zpl b base L).filter (fun q => !(q.1 == k) && !(q.1 + 1 == k && q.2.category == 2)))) : zlv b base ls' nL (zst0 L k) := by
  refine ⟨h'.1, by rw [zst0, List.length_set, zkl_len]; exact h.2.1, h'.2.1, fun i w hw => ?_⟩
  unfold zst0 at hw
  by_cases hik : k = i
  · subst hik
    have hl : k < (zkl L k).length := by
      have := (List.getElem?_eq_some_iff.mp hw).1
      simpa using this
    rw [List.getElem?_set_self hl] at hw
    cases hw
  · rw [List.getElem?_set_ne hik] at hw
    obtain ⟨h1, h2⟩ := zkl_get hw
    refine h'.2.2 (i, zcv b base w) (List.mem_cons_of_mem _ (List.mem_filter.mpr ⟨zpl_mem.mpr ⟨w, h1, rfl⟩, ?_⟩))
    have e1 : (i == k) = false := by simp [Ne.symm hik]
    by_cases hs : i + 1 = k
    · have := h2 hs
      simp [e1, zcv_cat, this]
    · simp [e1, hs]
theorem zst2_ok {b base : Nat} {ls ls' : Array Slot} {nL : Nat} {L : zL} {k : Nat} {v : Value} (h : zlv b base ls nL L)
    (h' : lv_has ls' nL ((k, zcv b base v) :: (zpl b base L).filter (fun q => !(q.1 == k) && (!(q.1 == k + 1) && !(q.1 + 1 == k && q.2.category == 2))))) : zlv b base ls' nL (zst2 L k v) := by
  refine ⟨h'.1, by rw [zst2, List.length_set, List.length_set, zkl_len]; exact h.2.1, h'.2.1, fun i w hw => ?_⟩
  unfold zst2 at hw
  by_cases hi1 : k + 1 = i
  · subst hi1
    have hl : k + 1 < ((zkl L k).set k (some v)).length := by
      have := (List.getElem?_eq_some_iff.mp hw).1
      simpa using this
    rw [List.getElem?_set_self hl] at hw
    cases hw
  · rw [List.getElem?_set_ne hi1] at hw
    by_cases hik : k = i
    · subst hik
      have hl : k < (zkl L k).length := by
        have := (List.getElem?_eq_some_iff.mp hw).1
        simpa using this
      rw [List.getElem?_set_self hl] at hw
      cases hw
      exact h'.2.2 _ List.mem_cons_self
    · rw [List.getElem?_set_ne hik] at hw
      obtain ⟨h1, h2⟩ := zkl_get hw
      refine h'.2.2 (i, zcv b base w) (List.mem_cons_of_mem _ (List.mem_filter.mpr ⟨zpl_mem.mpr ⟨w, h1, rfl⟩, ?_⟩))
      have e1 : (i == k) = false := by simp [Ne.symm hik]
      have e2 : (i == k + 1) = false := by simp [Ne.symm hi1]
      by_cases hs : i + 1 = k
      · have := h2 hs
        simp [e1, e2, zcv_cat, this]
      · simp [e1, e2, hs]
