/-! A SMALL PURE MACHINE over lists: the world of a method is a list of cells; a reference is a place in it. What it does is tied to the kit's judgement W in parts 06, 07; what the methods answer is reasoned about here alone. -/
abbrev jx_E : Type := (Nat × List Int32) ⊕ (Nat × List Value)
abbrev jx_H : Type := List jx_E
/-- an instruction, resolved: itself, the next one's place, two numbers (a target; a class and a field; a method), a list (a constant; a switch), the places of its words -/
abbrev jx_I : Type := Instr × Nat × Nat × Nat × List (Int32 × Nat) × List Nat
abbrev jx_C : Type := List (List (Nat × jx_I))
/-- a method: own class, name, bytes, locals, return type, how many parameters, static, code, the places of its words -/
abbrev jx_M : Type := String × MethodName × ByteArray × Nat × Option FieldType × Nat × Bool × jx_C × List Nat
abbrev jx_L : Type := List (Option Value)
abbrev jx_Q : Type := Option Value → jx_H → Prop
def jx_get {α : Type} : List α → Nat → Option α
  | [], _ => none
  | a :: _, 0 => some a
  | _ :: r, n + 1 => jx_get r n
def jx_assoc {α : Type} : List (Nat × α) → Nat → Option α
  | [], _ => none
  | (j, e) :: r, k => bif Nat.beq j k then some e else jx_assoc r k
def jx_nth {α : Type} (l : List (List α)) (k : Nat) : Option α := match jx_get l (k / 16) with
  | some r => jx_get r (k % 16)
  | none => none
def jx_look (c : jx_C) (pc : Nat) : Option jx_I := match jx_get c (pc / 16) with
  | some r => jx_assoc r pc
  | none => none
def jx_long : Option Value → Bool
  | some (.long _) => true
  | some (.double _) => true
  | _ => false
/-- a value stored (a long that it cuts is gone), then on with k -/
def jx_set1 {β : Type} (v : Value) : jx_L → Nat → (jx_L → Option β) → Option β
  | [], _, _ => none
  | _ :: r, 0, k => k (some v :: r)
  | p :: r, n + 1, k => match n, r with
    | 0, _ :: r' => bif jx_long p then k (none :: some v :: r') else k (p :: some v :: r')
    | _, _ => jx_set1 v r n (fun z => k (p :: z))
def jx_set2 {β : Type} (v : Value) : jx_L → Nat → (jx_L → Option β) → Option β
  | [], _, _ => none
  | _ :: r, 0, k => match r with | _ :: r' => k (some v :: none :: r') | [] => none
  | p :: r, n + 1, k => match n, r with
    | 0, _ :: _ :: r' => bif jx_long p then k (none :: some v :: none :: r') else k (p :: some v :: none :: r')
    | _, _ => jx_set2 v r n (fun z => k (p :: z))
def jx_bin (f : Int32 → Int32 → Int32) (st : List Value) : Option (List Prop × List Value) := match st with
  | .int y :: .int x :: r => some ([], .int (f x y) :: r)
  | _ => none
def jx_binL (f : Int64 → Int64 → Int64) (st : List Value) : Option (List Prop × List Value) := match st with
  | .long y :: .long x :: r => some ([], .long (f x y) :: r)
  | _ => none
def jx_div (f : Int32 → Int32 → Int32) (st : List Value) : Option (List Prop × List Value) := match st with
  | .int y :: .int x :: r => some ([¬ y = 0], .int (f x y) :: r)
  | _ => none
def jx_divL (f : Int64 → Int64 → Int64) (st : List Value) : Option (List Prop × List Value) := match st with
  | .long y :: .long x :: r => some ([¬ y = 0], .long (f x y) :: r)
  | _ => none
def jx_un (f : Int32 → Value) (st : List Value) : Option (List Prop × List Value) := match st with
  | .int x :: r => some ([], f x :: r)
  | _ => none
def jx_unL (f : Int64 → Value) (st : List Value) : Option (List Prop × List Value) := match st with
  | .long x :: r => some ([], f x :: r)
  | _ => none
def jx_cat1 : Value → Bool
  | .long _ => false
  | .double _ => false
  | _ => true
def jx_cst (sw : List (Int32 × Nat)) (st : List Value) : Option (List Prop × List Value) := match sw with
  | (v, _) :: _ => some ([], .int v :: st)
  | [] => none
/-- what touches the stack alone -/
def jx_pure (i : Instr) (a : Nat) (sw : List (Int32 × Nat)) (st : List Value) : Option (List Prop × List Value) := match i with
  | .iconst _ => jx_cst sw st
  | .bipush _ => jx_cst sw st
  | .sipush _ => jx_cst sw st
  | .ldc _ => jx_cst sw st
  | .ldc_w _ => jx_cst sw st
  | .ldc2_w _ => some ([], .long (Int64.ofNat a) :: st)
  | .iadd => jx_bin (fun x y => x + y) st
  | .isub => jx_bin (fun x y => x - y) st
  | .imul => jx_bin (fun x y => x * y) st
  | .iand => jx_bin (fun x y => x &&& y) st
  | .ior => jx_bin (fun x y => x ||| y) st
  | .ixor => jx_bin (fun x y => x ^^^ y) st
  | .ishl => jx_bin (fun x y => x <<< (y &&& 31)) st
  | .ishr => jx_bin (fun x y => x >>> (y &&& 31)) st
  | .iushr => jx_bin (fun x y => (x.toUInt32 >>> (y.toUInt32 &&& Int32.toUInt32 31)).toInt32) st
  | .idiv => jx_div (fun x y => x / y) st
  | .irem => jx_div (fun x y => x - x / y * y) st
  | .ineg => jx_un (fun x => .int (-x)) st
  | .i2l => jx_un (fun x => .long x.toInt64) st
  | .i2b => jx_un (fun x => .int x.toInt8.toInt32) st
  | .l2i => jx_unL (fun x => .int x.toInt32) st
  | .ladd => jx_binL (fun x y => x + y) st
  | .lmul => jx_binL (fun x y => x * y) st
  | .land => jx_binL (fun x y => x &&& y) st
  | .ldiv => jx_divL (fun x y => x / y) st
  | .lrem => jx_divL (fun x y => x - x / y * y) st
  | .dup => (match st with | v :: r => bif jx_cat1 v then some ([], v :: v :: r) else none | [] => none)
  | .pop => (match st with | v :: r => bif jx_cat1 v then some ([], r) else none | [] => none)
  | .dup2 => (match st with | v :: w :: r => bif jx_cat1 v && jx_cat1 w then some ([], v :: w :: v :: w :: r) else none | _ => none)
  | _ => none
def jx_ldI (ls : jx_L) (k : Nat) : Option Value := match jx_get ls k with | some (some (.int x)) => some (.int x) | _ => none
def jx_ldL (ls : jx_L) (k : Nat) : Option Value := match jx_get ls k with | some (some (.long x)) => some (.long x) | _ => none
def jx_ldA (ls : jx_L) (k : Nat) : Option Value := match jx_get ls k with | some (some (.ref x)) => some (.ref x) | _ => none
/-- what it pushes out of the locals -/
def jx_load (i : Instr) (ls : jx_L) : Option Value := match i with
  | .iload_n k => jx_ldI ls k.val
  | .iload k => jx_ldI ls k
  | .lload_n k => jx_ldL ls k.val
  | .lload k => jx_ldL ls k
  | .aload_n k => jx_ldA ls k.val
  | .aload k => jx_ldA ls k
  | _ => none
abbrev jx_S : Type := Nat × jx_L × List Value × jx_H
abbrev jx_R : Type := List Prop × jx_S
def jx_stI (nx : Nat) (ls : jx_L) (k : Nat) (st : List Value) (h : jx_H) : Option jx_R := match st with | .int x :: r => jx_set1 (.int x) ls k (fun l => some ([], nx, l, r, h)) | _ => none
def jx_stL (nx : Nat) (ls : jx_L) (k : Nat) (st : List Value) (h : jx_H) : Option jx_R := match st with | .long x :: r => jx_set2 (.long x) ls k (fun l => some ([], nx, l, r, h)) | _ => none
def jx_stA (nx : Nat) (ls : jx_L) (k : Nat) (st : List Value) (h : jx_H) : Option jx_R := match st with | .ref x :: r => jx_set1 (.ref x) ls k (fun l => some ([], nx, l, r, h)) | _ => none
def jx_store (i : Instr) (nx : Nat) (sw : List (Int32 × Nat)) (ls : jx_L) (st : List Value) (h : jx_H) : Option jx_R := match i with
  | .istore_n k => jx_stI nx ls k.val st h
  | .istore k => jx_stI nx ls k st h
  | .lstore_n k => jx_stL nx ls k.val st h
  | .lstore k => jx_stL nx ls k st h
  | .astore_n k => jx_stA nx ls k.val st h
  | .astore k => jx_stA nx ls k st h
  | .iinc k _ => (match jx_get ls k, sw with | some (some (.int x)), (v, _) :: _ => jx_set1 (.int (x + v)) ls k (fun l => some ([], nx, l, st, h)) | _, _ => none)
  | _ => none
/-- what reads the world -/
def jx_read (i : Instr) (a b : Nat) (st : List Value) (h : jx_H) : Option (List Prop × List Value) := match i with
  | .getfield _ => (match st with
    | .ref p :: r => (match jx_get h p with
      | some (.inr (c, fs)) => bif Nat.beq c a then (match jx_get fs b with | some v => some ([], v :: r) | none => none) else none
      | _ => none)
    | _ => none)
  | .arraylength => (match st with
    | .ref p :: r => (match jx_get h p with
      | some (.inl (_, l)) => some ([], .int (Int32.ofNat l.length) :: r)
      | _ => none)
    | _ => none)
  | .iaload => (match st with
    | .int j :: .ref p :: r => (match jx_get h p with
      | some (.inl (t, l)) => bif Nat.beq t 0 then some ([vp_in j l.length], .int (l.getD j.toNatClampNeg 0) :: r) else none
      | _ => none)
    | _ => none)
  | .baload => (match st with
    | .int j :: .ref p :: r => (match jx_get h p with
      | some (.inl (t, l)) => bif Nat.beq t 1 then some ([vp_in j l.length], .int (l.getD j.toNatClampNeg 0) :: r) else none
      | _ => none)
    | _ => none)
  | _ => none
/-- what writes it; a boolean field takes 0 or 1 -/
def jx_write (i : Instr) (a b : Nat) (sw : List (Int32 × Nat)) (st : List Value) (h : jx_H) : Option (List Prop × List Value × jx_H) := match i with
  | .putfield _ => (match st with
    | v :: .ref p :: r => (match jx_get h p with
      | some (.inr (c, fs)) => bif Nat.beq c a && Nat.blt b fs.length then
          (match sw, v with
          | (_, t) :: _, .int x => bif Nat.beq t 0 then some ([], r, h.set p (.inr (c, fs.set b (.int x)))) else
              bif Nat.beq t 1 then some ([x = 0 ∨ x = 1], r, h.set p (.inr (c, fs.set b (.int x)))) else none
          | (_, t) :: _, .long x => bif Nat.beq t 2 then some ([], r, h.set p (.inr (c, fs.set b (.long x)))) else none
          | _, _ => none) else none
      | _ => none)
    | _ => none)
  | .iastore => (match st with
    | .int x :: .int j :: .ref p :: r => (match jx_get h p with
      | some (.inl (t, l)) => bif Nat.beq t 0 then some ([vp_in j l.length], r, h.set p (.inl (t, l.set j.toNatClampNeg x))) else none
      | _ => none)
    | _ => none)
  | .bastore => (match st with
    | .int x :: .int j :: .ref p :: r => (match jx_get h p with
      | some (.inl (t, l)) => bif Nat.beq t 1 then some ([vp_in j l.length], r, h.set p (.inl (t, l.set j.toNatClampNeg x.toInt8.toInt32))) else none
      | _ => none)
    | _ => none)
  | _ => none
def jx_cats : List Value → Nat
  | [] => 0
  | v :: r => v.category + jx_cats r
def jx_kind (i : Instr) : Nat := match i with
  | .iload_n _ => 1 | .iload _ => 1 | .lload_n _ => 1 | .lload _ => 1 | .aload_n _ => 1 | .aload _ => 1
  | .istore_n _ => 2 | .istore _ => 2 | .lstore_n _ => 2 | .lstore _ => 2 | .astore_n _ => 2 | .astore _ => 2 | .iinc _ _ => 2
  | .getfield _ => 3 | .arraylength => 3 | .iaload => 3 | .baload => 3
  | .putfield _ => 4 | .iastore => 4 | .bastore => 4
  | .goto _ => 5
  | .ifnull _ => 6 | .ifnonnull _ => 6
  | .if_icmp _ _ => 7 | .ifCond _ _ => 7
  | .tableswitch _ _ _ _ => 8 | .lookupswitch _ _ => 8
  | .invokevirtual _ => 9 | .invokestatic _ => 9
  | .ireturn => 10 | .lreturn => 10 | .return_ => 10
  | _ => 0
def jx_max (nx a : Nat) (ls : jx_L) (st : List Value) (h : jx_H) : Option jx_R := bif Nat.beq a 9999 then (match st with
  | .int y :: .int x :: r => bif Nat.ble (jx_cats r) 8 then some ([], nx, ls, .int (if x < y then y else x) :: r, h) else none
  | _ => none) else none
def jx_null (i : Instr) (nx a : Nat) (ls : jx_L) (st : List Value) (h : jx_H) : Option jx_R := match i, st with
  | .ifnull _, .ref _ :: r => some ([], nx, ls, r, h)
  | .ifnonnull _, .ref _ :: r => some ([], a, ls, r, h)
  | _, _ => none
/-- one step that is no branch, call or return: what it asks, and the state behind it -/
def jx_next (i : Instr) (nx a b : Nat) (sw : List (Int32 × Nat)) (ls : jx_L) (st : List Value) (h : jx_H) : Option jx_R :=
  match jx_kind i with
  | 0 => (match jx_pure i a sw st with | some (o, st') => some (o, nx, ls, st', h) | none => none)
  | 1 => (match jx_load i ls with | some v => some ([], nx, ls, v :: st, h) | none => none)
  | 2 => jx_store i nx sw ls st h
  | 3 => (match jx_read i a b st h with | some (o, st') => some (o, nx, ls, st', h) | none => none)
  | 4 => (match jx_write i a b sw st h with | some (o, st', h') => some (o, nx, ls, st', h') | none => none)
  | 5 => some ([], a, ls, st, h)
  | 6 => jx_null i nx a ls st h
  | 9 => jx_max nx a ls st h
  | _ => none
/-- a branch: what it asks -/
def jx_br (i : Instr) (st : List Value) : Option (Prop × List Value) := match i with
  | .if_icmp c _ => (match st with
    | .int y :: .int x :: r => (match c with
      | .eq => some (x = y, r)
      | .ne => some (¬ x = y, r)
      | .lt => some (x < y, r)
      | .ge => some (y ≤ x, r)
      | .gt => some (y < x, r)
      | .le => some (x ≤ y, r))
    | _ => none)
  | .ifCond c _ => (match st with
    | .int x :: r => (match c with
      | .eq => some (x = 0, r)
      | .ne => some (¬ x = 0, r)
      | .lt => some (x < 0, r)
      | .ge => some (0 ≤ x, r)
      | .gt => some (0 < x, r)
      | .le => some (x ≤ 0, r))
    | _ => none)
  | _ => none
/-- a switch: its alternatives, one behind another -/
def jx_sw (P : Nat → Prop) (x : Int32) (d : Nat) : List (Int32 × Nat) → Prop
  | [] => P d
  | (k, t) :: r => (x = k → P t) ∧ (¬ x = k → jx_sw P x d r)
/-- a return: 0 an int, 1 a boolean -/
def jx_ret (i : Instr) (a : Nat) (st : List Value) : Option (List Prop × Option Value) := match i with
  | .ireturn => (match st with
    | [.int x] => bif Nat.beq a 0 then some ([], some (.int x)) else bif Nat.beq a 1 then some ([x = 0 ∨ x = 1], some (.int x)) else none
    | _ => none)
  | .lreturn => (match st with
    | [.long x] => some ([], some (.long x))
    | _ => none)
  | .return_ => (match st with
    | [] => some ([], none)
    | _ => none)
  | _ => none
/-- the locals at a method's entry, then on with k -/
def jx_args {β : Type} : Nat → List Value → (jx_L → Option β) → Option β
  | 0, [], k => k []
  | n + 1, [], k => jx_args n [] (fun z => k (none :: z))
  | 0, _ :: _, _ => none
  | n + 1, v :: r, k => bif jx_cat1 v then jx_args n r (fun z => k (some v :: z)) else (match n with
    | 0 => none
    | j + 1 => jx_args j r (fun z => k (some v :: none :: z)))
/-- the parameters of a call off the stack: n of them, the last on top -/
def jx_pop : Nat → List Value → List Value → Option (List Value × List Value)
  | 0, acc, st => some (acc, st)
  | n + 1, acc, v :: st => jx_pop n (v :: acc) st
  | _ + 1, _, [] => none
