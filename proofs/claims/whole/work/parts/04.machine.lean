/-! THE ABSTRACT MACHINE. A cell of its heap is an array (kind: 0 int, 1 long, 2 Matrix, 3 Ring; length, contents) or an object (kind: its place in zcl; its fields). A reference is a place in the heap; .retAddr stands for the script. -/
abbrev zC : Type := (Nat × vp_A) ⊕ (Nat × List Value)
abbrev zH : Type := Nat → zC
abbrev zL : Type := List (Option Value)
/-- cells of the heap; cells and slots made so far -/
abbrev zG : Type := Nat × Nat × Nat
/-- the end: an answer, or an exception by its number -/
abbrev zO : Type := (Option Value × zG × zH) ⊕ (Nat × zG × zH)
/-- a step: go on; branch; end; call a method with arguments, over what is left of the stack -/
abbrev zS : Type := (Nat × zL × List Value × zG × zH) ⊕ (Bool × Nat × Nat × List Value) ⊕ zO ⊕ (Nat × List Value × List Value)
def zlk1 : List (Nat × Instr) → Nat → Option Instr
  | [], _ => none
  | q :: t, pc => bif Nat.beq q.1 pc then some q.2 else zlk1 t pc
def zlk : zI → Nat → Option Instr
  | [], _ => none
  | q :: t, pc => bif Nat.blt pc q.1 then zlk1 q.2 pc else zlk t pc
/-- the operand stack alone -/
def zstk : Instr → List Value → Option (Nat × List Value)
  | .iconst k, st => some (1, .int (Int32.ofInt k) :: st)
  | .bipush k, st => some (2, .int (Int8.ofInt k).toInt32 :: st)
  | .sipush k, st => some (3, .int (Int16.ofInt k).toInt32 :: st)
  | .lconst k, st => some (1, .long (Int64.ofNat (k : Nat)) :: st)
  | .iadd, .int y :: .int x :: t => some (1, .int (x + y) :: t)
  | .isub, .int y :: .int x :: t => some (1, .int (x - y) :: t)
  | .imul, .int y :: .int x :: t => some (1, .int (x * y) :: t)
  | .iand, .int y :: .int x :: t => some (1, .int (x &&& y) :: t)
  | .ixor, .int y :: .int x :: t => some (1, .int (x ^^^ y) :: t)
  | .idiv, .int y :: .int x :: t => bif decide (y = 0) then none else some (1, .int (x / y) :: t)
  | .irem, .int y :: .int x :: t => bif decide (y = 0) then none else some (1, .int (x - x / y * y) :: t)
  | .ineg, .int x :: t => some (1, .int (-x) :: t)
  | .ladd, .long y :: .long x :: t => some (1, .long (x + y) :: t)
  | .lsub, .long y :: .long x :: t => some (1, .long (x - y) :: t)
  | .lmul, .long y :: .long x :: t => some (1, .long (x * y) :: t)
  | .land, .long y :: .long x :: t => some (1, .long (x &&& y) :: t)
  | .lor, .long y :: .long x :: t => some (1, .long (x ||| y) :: t)
  | .lxor, .long y :: .long x :: t => some (1, .long (x ^^^ y) :: t)
  | .ldiv, .long y :: .long x :: t => bif decide (y = 0) then none else some (1, .long (x / y) :: t)
  | .lrem, .long y :: .long x :: t => bif decide (y = 0) then none else some (1, .long (x - x / y * y) :: t)
  | .lneg, .long x :: t => some (1, .long (-x) :: t)
  | .lshl, .int y :: .long x :: t => some (1, .long (x <<< (y.toInt64 &&& 63)) :: t)
  | .lshr, .int y :: .long x :: t => some (1, .long (x >>> (y.toInt64 &&& 63)) :: t)
  | .i2l, .int x :: t => some (1, .long x.toInt64 :: t)
  | .l2i, .long x :: t => some (1, .int x.toInt32 :: t)
  | .lcmp, .long y :: .long x :: t => some (1, .int (lg_cmp x y) :: t)
  | .dup, .ref a :: t => some (1, .ref a :: .ref a :: t)
  | .dup, .int a :: t => some (1, .int a :: .int a :: t)
  | .dup2, .int a :: .ref b :: t => some (1, .int a :: .ref b :: .int a :: .ref b :: t)
  | .pop, .int _ :: t => some (1, t)
  | .pop, .ref _ :: t => some (1, t)
  | _, _ => none
/-- storing at k ends a long or double that began at k - 1 -/
def zkl (L : zL) (k : Nat) : zL := match k with
  | 0 => L
  | j + 1 => match L[j]? with
    | some (some v) => bif Nat.beq v.category 2 then L.set j none else L
    | _ => L
def zst0 (L : zL) (k : Nat) : zL := (zkl L k).set k none
def zst1 (L : zL) (k : Nat) (v : Value) : zL := (zkl L k).set k (some v)
def zst2 (L : zL) (k : Nat) (v : Value) : zL := ((zkl L k).set k (some v)).set (k + 1) none
def zldi (L : zL) (k d : Nat) (st : List Value) : Option (Nat × zL × List Value) := match L[k]? with
  | some (some (.int x)) => some (d, L, .int x :: st)
  | _ => none
def zldl (L : zL) (k d : Nat) (st : List Value) : Option (Nat × zL × List Value) := match L[k]? with
  | some (some (.long x)) => some (d, L, .long x :: st)
  | _ => none
def zlda (L : zL) (k d : Nat) (st : List Value) : Option (Nat × zL × List Value) := match L[k]? with
  | some (some (.ref x)) => some (d, L, .ref x :: st)
  | some (some (.retAddr x)) => some (d, L, .retAddr x :: st)
  | _ => none
def zsti (L : zL) (k d : Nat) (st : List Value) : Option (Nat × zL × List Value) := match st with
  | .int x :: t => bif Nat.blt k L.length then some (d, zst1 L k (.int x), t) else none
  | _ => none
def zstl (L : zL) (k d : Nat) (st : List Value) : Option (Nat × zL × List Value) := match st with
  | .long x :: t => bif Nat.blt (k + 1) L.length then some (d, zst2 L k (.long x), t) else none
  | _ => none
def zsta (L : zL) (k d : Nat) (st : List Value) : Option (Nat × zL × List Value) := match st with
  | .ref x :: t => bif Nat.blt k L.length then some (d, zst1 L k (.ref x), t) else none
  | _ => none
def zinc (L : zL) (k : Nat) (c : Int) (st : List Value) : Option (Nat × zL × List Value) := match L[k]? with
  | some (some (.int x)) => some (3, zst1 L k (.int (x + Int32.ofInt c)), st)
  | _ => none
/-- locals and stack -/
def zlcl (i : Instr) (L : zL) (st : List Value) : Option (Nat × zL × List Value) := match i with
  | .iload k => zldi L k 2 st
  | .iload_n k => zldi L k 1 st
  | .lload k => zldl L k 2 st
  | .lload_n k => zldl L k 1 st
  | .aload k => zlda L k 2 st
  | .aload_n k => zlda L k 1 st
  | .istore k => zsti L k 2 st
  | .istore_n k => zsti L k 1 st
  | .lstore k => zstl L k 2 st
  | .lstore_n k => zstl L k 1 st
  | .astore k => zsta L k 2 st
  | .astore_n k => zsta L k 1 st
  | .iinc k c => zinc L k c st
  | _ => none
def zcmp (c : ClassFile.Cond) (x y : Int32) : Bool := match c with
  | .eq => decide (x = y)
  | .ne => !decide (x = y)
  | .lt => decide (x < y)
  | .ge => decide (y ≤ x)
  | .gt => decide (y < x)
  | .le => decide (x ≤ y)
/-- a jump's end: pc + off, if that is a place -/
def ztgt (pc : Nat) (off : Int) : Option Nat := match (pc : Int) + off with
  | .ofNat n => some n
  | .negSucc _ => none
def ztsw (d lo hi : Int) (offs : Array Int) (x : Int32) : Option Int := bif decide (x.toInt < lo) || decide (hi < x.toInt) then some d else offs[(x.toInt - lo).toNat]?
/-- branches -/
def zbr (i : Instr) (pc : Nat) (st : List Value) : Option (Bool × Nat × Nat × List Value) := match i with
  | .goto off => match ztgt pc off with
    | some n => some (true, n, n, st)
    | none => none
  | .ifCond c off => match ztgt pc off, st with
    | some n, .int x :: t => some (zcmp c x 0, n, pc + 3, t)
    | _, _ => none
  | .if_icmp c off => match ztgt pc off, st with
    | some n, .int y :: .int x :: t => some (zcmp c x y, n, pc + 3, t)
    | _, _ => none
  | .tableswitch d lo hi offs => match st with
    | .int x :: t => match ztsw d lo hi offs x with
      | some off => match ztgt pc off with
        | some n => some (true, n, n, t)
        | none => none
      | none => none
    | _ => none
  | _ => none
def zib (i : Int32) (n : Nat) : Bool := !(decide (i < 0) || Nat.ble n i.toNatClampNeg)
/-- a value that a field of a type takes -/
def zpt (ty : FieldType) (v : Value) : Bool := match ty, v with
  | .int, .int _ => true
  | .boolean, .int x => decide (x = 0) || decide (x = 1)
  | .object _, .ref _ => true
  | .array _, .ref _ => true
  | _, _ => false
/-- reading the heap -/
def zrd (sc : Option (Nat × (Nat → Int32))) (o : Nat) (i : Instr) (st : List Value) (g : zG) (h : zH) : Option (Nat × List Value) := match i with
  | .getfield idx => match st with
    | .ref a :: t => bif Nat.blt a g.1 then (match h a with
      | .inr (ci, fs) => (match zq2 zFL o idx ci with
        | some q => (match fs[q.1]? with
          | some v => some (3, v :: t)
          | none => none)
        | none => none)
      | _ => none) else none
    | _ => none
  | .iaload => match st with
    | .int k :: .ref a :: t => bif Nat.blt a g.1 then (match h a with
      | .inl (0, n, .inl f) => bif zib k n then some (1, .int (f k.toNatClampNeg) :: t) else none
      | _ => none) else none
    | .int k :: .retAddr _ :: t => (match sc with
      | some (n, f) => bif zib k n then some (1, .int (f k.toNatClampNeg) :: t) else none
      | none => none)
    | _ => none
  | .laload => match st with
    | .int k :: .ref a :: t => bif Nat.blt a g.1 then (match h a with
      | .inl (1, n, .inr (.inl f)) => bif zib k n then some (1, .long (f k.toNatClampNeg) :: t) else none
      | _ => none) else none
    | _ => none
  | .aaload => match st with
    | .int k :: .ref a :: t => bif Nat.blt a g.1 then (match h a with
      | .inl (ty, n, .inr (.inr (.inr (.inr f)))) => bif zib k n && (Nat.beq ty 2 || Nat.beq ty 3) then (match f k.toNatClampNeg with
        | some r => some (1, .ref r :: t)
        | none => none) else none
      | _ => none) else none
    | _ => none
  | .arraylength => match st with
    | .ref a :: t => bif Nat.blt a g.1 then (match h a with
      | .inl (ty, n, _) => bif Nat.ble ty 3 then some (1, .int (Int32.ofNat n) :: t) else none
      | _ => none) else none
    | .retAddr _ :: t => (match sc with
      | some (n, _) => some (1, .int (Int32.ofNat n) :: t)
      | none => none)
    | _ => none
  | .ldc idx => match zq1 zCI o idx with
    | some q => some (2, .int q.1 :: st)
    | none => none
  | .ldc_w idx => match zq1 zCI o idx with
    | some q => some (3, .int q.1 :: st)
    | none => none
  | .ldc2_w idx => match zq1 zCL o idx with
    | some q => some (3, .long q.1 :: st)
    | none => none
  | .invokespecial idx => match zq1 zOI o idx, st with
    | some _, .ref _ :: t => bif Nat.ble ((t.map fun v => v.category).sum) 8 then some (3, t) else none
    | _, _ => none
  | _ => none
def zcast (ci ty : Nat) : Bool := (Nat.beq ci 2 && Nat.beq ty 2) || (Nat.beq ty 3 && (Nat.beq ci 0 || Nat.beq ci 1 || Nat.beq ci 4))
/-- writing to the heap -/
def zwr (al : Bool) (M : zM) (i : Instr) (st : List Value) (g : zG) (h : zH) : Option (Nat × List Value × zH) := match i with
  | .putfield idx => match st with
    | v :: .ref a :: t => bif Nat.blt a g.1 then (match h a with
      | .inr (ci, fs) => (match zq2 zFL M.1 idx ci, zcl[ci]? with
        | some q, some (_, T, _) => bif zpt (zty ci q.1) v && Nat.blt q.1 fs.length && ((!(T q.1).2.2.2 && !(q.2.2 && al)) || ((T q.1).2.2.2 && decide (M.2.2.1.name = "<init>") && decide ((T q.1).1 = zon M.1) && !q.2.2)) then some (3, t, va_up h a (.inr (ci, fs.set q.1 v))) else none
        | _, _ => none)
      | _ => none) else none
    | _ => none
  | .iastore => match st with
    | .int x :: .int k :: .ref a :: t => bif Nat.blt a g.1 then (match h a with
      | .inl (0, n, .inl f) => bif zib k n then some (1, t, va_up h a (.inl (0, n, .inl (upd f k.toNatClampNeg x)))) else none
      | _ => none) else none
    | _ => none
  | .lastore => match st with
    | .long x :: .int k :: .ref a :: t => bif Nat.blt a g.1 then (match h a with
      | .inl (1, n, .inr (.inl f)) => bif zib k n then some (1, t, va_up h a (.inl (1, n, .inr (.inl (vp_updL f k.toNatClampNeg x))))) else none
      | _ => none) else none
    | _ => none
  | .aastore => match st with
    | .ref v :: .int k :: .ref a :: t => bif Nat.blt a g.1 && Nat.blt v g.1 then (match h a, h v with
      | .inl (ty, n, .inr (.inr (.inr (.inr f)))), .inr (ci, _) => bif zib k n && zcast ci ty then some (1, t, va_up h a (.inl (ty, n, .inr (.inr (.inr (.inr (va_up f k.toNatClampNeg (some v)))))))) else none
      | _, _ => none) else none
    | _ => none
  | .invokestatic idx => match zq1 zAC M.1 idx with
    | some _ => (match st with
      | .int n :: .int dp :: .ref a :: .int sp :: .ref b :: t => bif !al && Nat.blt a g.1 && Nat.blt b g.1 && !decide (sp < 0) && !decide (dp < 0) && !decide (n < 0) && Nat.ble ((t.map fun v => v.category).sum) 8 then (match h b, h a with
        | .inl (0, n0, .inl f), .inl (0, n1, .inl f1) => bif Nat.ble (sp.toNatClampNeg + n.toNatClampNeg) n0 && Nat.ble (dp.toNatClampNeg + n.toNatClampNeg) n1 then some (3, t, va_up h a (.inl (0, n1, .inl (va_cpy f f1 sp.toNatClampNeg dp.toNatClampNeg n.toNatClampNeg)))) else none
        | .inl (1, n0, .inr (.inl f)), .inl (1, n1, .inr (.inl f1)) => bif Nat.ble (sp.toNatClampNeg + n.toNatClampNeg) n0 && Nat.ble (dp.toNatClampNeg + n.toNatClampNeg) n1 then some (3, t, va_up h a (.inl (1, n1, .inr (.inl (va_cpy f f1 sp.toNatClampNeg dp.toNatClampNeg n.toNatClampNeg))))) else none
        | _, _ => none) else none
      | _ => none)
    | none => none
  | _ => none
/-- a field's value in a new object -/
def zdv (ty : FieldType) : Value := defaultValue ty
/-- making cells -/
def znew (o : Nat) (i : Instr) (st : List Value) (g : zG) (h : zH) : Option (Nat × List Value × zG × zH) := match i with
  | .new idx => match zq1 zNW o idx with
    | some q => (match zcl[q.1]? with
      | some (_, _, N) => some (3, .ref g.1 :: st, (g.1 + 1, g.2.1 + 1, g.2.2 + N), va_up h g.1 (.inr (q.1, (List.range N).map (fun k => zdv (zty q.1 k)))))
      | none => none)
    | none => none
  | .newarray .int => match st with
    | .int n :: t => bif decide (n < 0) || Nat.ble 100000 n.toNatClampNeg then none else some (2, .ref g.1 :: t, (g.1 + 1, g.2.1 + 1, g.2.2 + n.toNatClampNeg), va_up h g.1 (.inl (0, n.toNatClampNeg, .inl (fun _ => 0))))
    | _ => none
  | .newarray .long => match st with
    | .int n :: t => bif decide (n < 0) || Nat.ble 100000 n.toNatClampNeg then none else some (2, .ref g.1 :: t, (g.1 + 1, g.2.1 + 1, g.2.2 + n.toNatClampNeg), va_up h g.1 (.inl (1, n.toNatClampNeg, .inr (.inl (fun _ => 0)))))
    | _ => none
  | .anewarray idx => match zq1 zAW o idx, st with
    | some q, .int n :: t => bif decide (n < 0) || Nat.ble 100000 n.toNatClampNeg then none else some (3, .ref g.1 :: t, (g.1 + 1, g.2.1 + 1, g.2.2 + n.toNatClampNeg), va_up h g.1 (.inl (q.1, n.toNatClampNeg, .inr (.inr (.inr (.inr (fun _ => none)))))))
    | _, _ => none
  | _ => none
/-- 'throw new E("text")' at pc: which exception -/
def zts (o ik is ic : Nat) (w : Bool) : List (Nat × Nat × Nat × Bool × Nat × String × Nat × Nat) → Option Nat
  | [] => none
  | q :: t => bif Nat.beq q.1 ik && Nat.beq q.2.1 is && Nat.beq q.2.2.1 ic && (q.2.2.2.1 == w) then some q.2.2.2.2.1 else zts o ik is ic w t
def zthr (M : zM) (pc : Nat) (i : Instr) (st : List Value) : Option Nat := match i, st, M.2.2.2.2.2.2.2 with
  | .new ik, [], [] => match zlk M.2.2.2.2.2.2.1 (pc + 3), zlk M.2.2.2.2.2.2.1 (pc + 4), zTS[M.1]? with
    | some .dup, some (.ldc is), some T => (match zlk M.2.2.2.2.2.2.1 (pc + 6), zlk M.2.2.2.2.2.2.1 (pc + 9) with
      | some (.invokespecial ic), some .athrow => zts M.1 ik is ic false T
      | _, _ => none)
    | some .dup, some (.ldc_w is), some T => (match zlk M.2.2.2.2.2.2.1 (pc + 7), zlk M.2.2.2.2.2.2.1 (pc + 10) with
      | some (.invokespecial ic), some .athrow => zts M.1 ik is ic true T
      | _, _ => none)
    | _, _, _ => none
  | _, _, _ => none
/-- returning -/
def zret (M : zM) (i : Instr) (st : List Value) : Option (Option Value) := match i with
  | .return_ => match st, M.2.2.2.2.2.1 with
    | [], none => some none
    | _, _ => none
  | .ireturn => match st, M.2.2.2.2.2.1 with
    | [.int v], some .int => some (some (.int v))
    | [.int v], some .boolean => bif decide (v = 0) || decide (v = 1) then some (some (.int v)) else none
    | _, _ => none
  | .lreturn => match st, M.2.2.2.2.2.1 with
    | [.long v], some .long => some (some (.long v))
    | _, _ => none
  | .areturn => match st, M.2.2.2.2.2.1 with
    | [.ref v], some (.object _) => some (some (.ref v))
    | _, _ => none
  | _ => none
/-- the n topmost, in the order in which they were pushed; the rest -/
def zpop : Nat → List Value → List Value → Option (List Value × List Value)
  | 0, st, acc => some (acc, st)
  | n + 1, v :: st, acc => zpop n st (v :: acc)
  | _ + 1, [], _ => none
/-- calling -/
def zcal (o : Nat) (i : Instr) (st : List Value) (g : zG) (h : zH) : Option (Nat × List Value × List Value) := match i with
  | .invokestatic idx => match zq1 zSV o idx with
    | some q => (match zpop q.2.1 st [] with
      | some (as, t) => some (q.1, as, t)
      | none => none)
    | none => none
  | .invokespecial idx => match zq1 zSC o idx with
    | some q => (match zpop q.2.1 st [] with
      | some (as, .ref a :: t) => some (q.1, .ref a :: as, t)
      | _ => none)
    | none => none
  | .invokevirtual idx => match zq1 zVN o idx with
    | some n => (match zpop n st [] with
      | some (as, .ref a :: t) => bif Nat.blt a g.1 then (match h a with
        | .inr (ci, _) => (match zq2 zVV o idx ci with
          | some q => bif Nat.beq q.2.1 n then some (q.1, .ref a :: as, t) else none
          | none => none)
        | _ => none) else none
      | _ => none)
    | none => none
  | _ => none
def zstep (sc : Option (Nat × (Nat → Int32))) (al : Bool) (M : zM) (pc : Nat) (i : Instr) (L : zL) (st : List Value) (g : zG) (h : zH) : Option zS :=
  match zstk i st with
  | some q => some (.inl (pc + q.1, L, q.2, g, h))
  | none => match zlcl i L st with
    | some q => some (.inl (pc + q.1, q.2.1, q.2.2, g, h))
    | none => match zbr i pc st with
      | some q => some (.inr (.inl q))
      | none => match zrd sc M.1 i st g h with
        | some q => some (.inl (pc + q.1, L, q.2, g, h))
        | none => match zwr al M i st g h with
          | some q => some (.inl (pc + q.1, L, q.2.1, g, q.2.2))
          | none => match zret M i st with
            | some v => some (.inr (.inr (.inl (.inl (v, g, h)))))
            | none => match zcal M.1 i st g h with
              | some q => some (.inr (.inr (.inr q)))
              | none => match al with
                | true => (match znew M.1 i st g h with
                  | some q => some (.inl (pc + q.1, L, q.2.1, q.2.2.1, q.2.2.2))
                  | none => none)
                | false => (match zthr M pc i st with
                  | some e => some (.inr (.inr (.inl (.inr (e, g, h)))))
                  | none => none)
def zslt : List Value → zL
  | [] => []
  | v :: t => bif Nat.beq v.category 2 then some v :: none :: zslt t else some v :: zslt t
/-- the locals at the entry -/
def zent (as : List Value) (n : Nat) : zL := zslt as ++ List.replicate (n - (zslt as).length) none
/-- the handler of an exception that comes out of a call at pc: its place behind the store, the local that it is stored to -/
def zhan (M : zM) (pc e : Nat) : List (Nat × Nat × Nat × Nat) → Option (Nat × Nat)
  | [] => none
  | q :: t => bif Nat.ble q.1 pc && Nat.blt pc q.2.1 then (match zq1 zXH M.1 q.2.2.2 with
      | some e' => bif Nat.beq e e'.1 then (match zlk M.2.2.2.2.2.2.1 q.2.2.1 with
          | some (.astore_n k) => some (q.2.2.1 + 1, (k : Nat))
          | some (.astore k) => some (q.2.2.1 + 2, k)
          | _ => none) else zhan M pc e t
      | none => none) else zhan M pc e t
def zrun : Nat → Option (Nat × (Nat → Int32)) → Bool → zM → Nat → zL → List Value → zG → zH → Option zO
  | 0, _, _, _, _, _, _, _, _ => none
  | f + 1, sc, al, M, pc, L, st, g, h =>
    match zlk M.2.2.2.2.2.2.1 pc with
    | none => none
    | some i => match zstep sc al M pc i L st g h with
      | none => none
      | some (.inl q) => zrun f sc al M q.1 q.2.1 q.2.2.1 q.2.2.2.1 q.2.2.2.2
      | some (.inr (.inl q)) => match q.1 with
        | true => zrun f sc al M q.2.1 L q.2.2.2 g h
        | false => zrun f sc al M q.2.2.1 L q.2.2.2 g h
      | some (.inr (.inr (.inl o))) => some o
      | some (.inr (.inr (.inr q))) => match zpr q.1 with
        | none => none
        | some M' => bif Nat.blt M'.2.1 M.2.1 && Nat.ble ((q.2.2.map fun v => v.category).sum) 8 && Nat.ble (zslt q.2.1).length M'.2.2.2.2.1 then (match zrun f none al M' 0 (zent q.2.1 M'.2.2.2.2.1) [] g h with
          | none => none
          | some (.inl r) => zrun f sc al M (pc + 3) L (r.1.toList ++ q.2.2) r.2.1 r.2.2
          | some (.inr r) => match M.2.2.2.2.2.2.2 with
            | [] => some (.inr r)
            | H => match zhan M pc r.1 H with
              | some k => bif Nat.blt k.2 L.length then zrun f sc al M k.1 (zst0 L k.2) [] (r.2.1.1, r.2.1.2.1 + 1, r.2.1.2.2 + 6) r.2.2 else none
              | none => none) else none
