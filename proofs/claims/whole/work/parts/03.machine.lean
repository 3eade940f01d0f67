/-! THE PURE MACHINE: the bytecode of this claim over a typed heap of its own (ints, longs, doubles, references, each by address and place). Tags say what lies at an address: 1..12 an object of the class with that number less 1; 21 the script; 22 int[]; 23 char[]; 24 long[]; 25 double[]; 30+t an array of references to objects of tag t; 0 nothing that is spoken of. -/
abbrev PV : Type := Int32 ⊕ Option Nat ⊕ Int64 ⊕ UInt64 ⊕ Nat
abbrev vi (x : Int32) : PV := .inl x
abbrev vr (a : Option Nat) : PV := .inr (.inl a)
abbrev vl (x : Int64) : PV := .inr (.inr (.inl x))
abbrev vd (x : UInt64) : PV := .inr (.inr (.inr (.inl x)))
abbrev vs (j : Nat) : PV := .inr (.inr (.inr (.inr j)))
/-- the heap: ints, longs, doubles, references, the next address, the cells made, the slots made -/
abbrev PH : Type := (Nat → Nat → Int32) × (Nat → Nat → Int64) × (Nat → Nat → UInt64) × (Nat → Nat → Option Nat) × Nat × Nat × Nat
def gi (h : PH) : Nat → Nat → Int32 := h.1
def gl (h : PH) : Nat → Nat → Int64 := h.2.1
def gd (h : PH) : Nat → Nat → UInt64 := h.2.2.1
def gr (h : PH) : Nat → Nat → Option Nat := h.2.2.2.1
def nx (h : PH) : Nat := h.2.2.2.2.1
def ce (h : PH) : Nat := h.2.2.2.2.2.1
def sl (h : PH) : Nat := h.2.2.2.2.2.2
def up2 {α : Type} (f : Nat → Nat → α) (a k : Nat) (x : α) : Nat → Nat → α := fun b j => if b = a ∧ j = k then x else f b j
def si (h : PH) (a k : Nat) (x : Int32) : PH := (up2 h.1 a k x, h.2)
def sL (h : PH) (a k : Nat) (x : Int64) : PH := (h.1, up2 h.2.1 a k x, h.2.2)
def sd (h : PH) (a k : Nat) (x : UInt64) : PH := (h.1, h.2.1, up2 h.2.2.1 a k x, h.2.2.2)
def sr (h : PH) (a k : Nat) (x : Option Nat) : PH := (h.1, h.2.1, h.2.2.1, up2 h.2.2.2.1 a k x, h.2.2.2.2)
def grow (h : PH) (n : Nat) : PH := (h.1, h.2.1, h.2.2.1, h.2.2.2.1, h.2.2.2.2.1 + 1, h.2.2.2.2.2.1 + 1, h.2.2.2.2.2.2 + n)
/-- an exception has been made: it isn't spoken of -/
def bump (h : PH) : PH := (h.1, h.2.1, h.2.2.1, h.2.2.2.1, h.2.2.2.2.1, h.2.2.2.2.2.1 + 1, h.2.2.2.2.2.2 + 6)
/-- a row of a method's code: the instruction, its length, and what its links mean -/
abbrev PE : Type := Instr × Nat × Nat × Nat × Nat × Nat × Nat
abbrev PL : Type := List (Option PV)
def lget (L : PL) (i : Nat) : Option PV := match L[i]? with
  | some (some v) => some v
  | _ => none
/-- a value of two words -/
def iw : PV → Bool
  | .inr (.inr (.inl _)) => true
  | .inr (.inr (.inr (.inl _))) => true
  | _ => false
/-- the place below i is cleared if a value of two words lies there -/
def lclr (L : PL) (i : Nat) : PL := match i with
  | 0 => L
  | j + 1 => match lget L j with
    | some w => bif iw w then L.set j none else L
    | none => L
def lput (L : PL) (i : Nat) (v : PV) : Option PL :=
  bif iw v then (bif Nat.blt (i + 1) L.length then some (((lclr L i).set i (some v)).set (i + 1) none) else none)
  else (bif Nat.blt i L.length then some ((lclr L i).set i (some v)) else none)
abbrev PC : Type := Nat × PL × List PV
def ldI (pc : Nat) (L : PL) (st : List PV) (i : Nat) : Option PC := match lget L i with
  | some (.inl x) => some (pc, L, vi x :: st)
  | _ => none
def ldA (pc : Nat) (L : PL) (st : List PV) (i : Nat) : Option PC := match lget L i with
  | some (.inr (.inl r)) => some (pc, L, vr r :: st)
  | some (.inr (.inr (.inr (.inr j)))) => some (pc, L, vs j :: st)
  | _ => none
def ldL (pc : Nat) (L : PL) (st : List PV) (i : Nat) : Option PC := match lget L i with
  | some (.inr (.inr (.inl x))) => some (pc, L, vl x :: st)
  | _ => none
def ldD (pc : Nat) (L : PL) (st : List PV) (i : Nat) : Option PC := match lget L i with
  | some (.inr (.inr (.inr (.inl x)))) => some (pc, L, vd x :: st)
  | _ => none
def stI (pc : Nat) (L : PL) (st : List PV) (i : Nat) : Option PC := match st with
  | .inl x :: st => (lput L i (vi x)).map (fun L2 => (pc, L2, st))
  | _ => none
def stA (pc : Nat) (L : PL) (st : List PV) (i : Nat) : Option PC := match st with
  | .inr (.inl r) :: st => (lput L i (vr r)).map (fun L2 => (pc, L2, st))
  | .inr (.inr (.inr (.inr j))) :: st => (lput L i (vs j)).map (fun L2 => (pc, L2, st))
  | _ => none
def stL (pc : Nat) (L : PL) (st : List PV) (i : Nat) : Option PC := match st with
  | .inr (.inr (.inl x)) :: st => (lput L i (vl x)).map (fun L2 => (pc, L2, st))
  | _ => none
def stD (pc : Nat) (L : PL) (st : List PV) (i : Nat) : Option PC := match st with
  | .inr (.inr (.inr (.inl x))) :: st => (lput L i (vd x)).map (fun L2 => (pc, L2, st))
  | _ => none
/-- two ints on the stack -/
def bin (pc : Nat) (L : PL) (st : List PV) (f : Int32 → Int32 → Int32) : Option PC := match st with
  | .inl y :: .inl x :: st => some (pc, L, vi (f x y) :: st)
  | _ => none
/-- the same, where the second one isn't 0 -/
def bin0 (pc : Nat) (L : PL) (st : List PV) (f : Int32 → Int32 → Int32) : Option PC := match st with
  | .inl y :: .inl x :: st => if y = 0 then none else some (pc, L, vi (f x y) :: st)
  | _ => none
def cmpC (c : ClassFile.Cond) (x y : Int32) : Prop := match c with
  | .eq => x = y
  | .ne => ¬ x = y
  | .lt => x < y
  | .ge => y ≤ x
  | .gt => y < x
  | .le => x ≤ y
noncomputable def cmpP (c : ClassFile.Cond) (x y : Int32) (a b : Nat) : Nat := @ite _ (cmpC c x y) (Classical.propDecidable _) a b
/-- a switch: the values with their targets -/
def swl (pc : Nat) (e : Instr) : List (Int32 × Nat) × Nat := match e with
  | .tableswitch d lo hi offs => ((List.range offs.size).map (fun (i : Nat) => (Int32.ofInt (lo + (i : Int)), ((pc : Int) + offs.getD i 0).toNat)), ((pc : Int) + d).toNat)
  | .lookupswitch d ps => (ps.toList.map (fun q => (Int32.ofInt q.1, ((pc : Int) + q.2).toNat)), ((pc : Int) + d).toNat)
  | _ => ([], 0)
def swf : List (Int32 × Nat) → Nat → Int32 → Nat
  | [], d, _ => d
  | q :: r, d, x => if x = q.1 then q.2 else swf r d x
/-- what an instruction does to place, locals and stack, where the heap has no part in it -/
noncomputable def pstep (e : PE) (pc : Nat) (L : PL) (st : List PV) : Option PC :=
  match e.1 with
  | .iconst n => some (pc + 1, L, vi (Int32.ofInt n) :: st)
  | .bipush n => some (pc + 2, L, vi (Int8.ofInt n).toInt32 :: st)
  | .sipush n => some (pc + 3, L, vi (Int16.ofInt n).toInt32 :: st)
  | .ldc _ => bif Nat.beq e.2.2.1 0 then some (pc + 2, L, vi (Int32.ofNat e.2.2.2.1) :: st) else some (pc + 2, L, vs e.2.2.2.1 :: st)
  | .lconst n => some (pc + 1, L, vl (Int64.ofNat (n : Nat)) :: st)
  | .dconst n => bif Nat.beq (n : Nat) 0 then some (pc + 1, L, vd FP.dconst0 :: st) else none
  | .aconst_null => some (pc + 1, L, vr none :: st)
  | .iload_n k => ldI (pc + 1) L st (k : Nat)
  | .iload i => ldI (pc + 2) L st i
  | .lload_n k => ldL (pc + 1) L st (k : Nat)
  | .lload i => ldL (pc + 2) L st i
  | .dload i => ldD (pc + 2) L st i
  | .aload_n k => ldA (pc + 1) L st (k : Nat)
  | .aload i => ldA (pc + 2) L st i
  | .istore_n k => stI (pc + 1) L st (k : Nat)
  | .istore i => stI (pc + 2) L st i
  | .lstore_n k => stL (pc + 1) L st (k : Nat)
  | .lstore i => stL (pc + 2) L st i
  | .dstore i => stD (pc + 2) L st i
  | .astore_n k => stA (pc + 1) L st (k : Nat)
  | .astore i => stA (pc + 2) L st i
  | .iinc i n => match lget L i with
    | some (.inl x) => (lput L i (vi (x + Int32.ofInt n))).map (fun L2 => (pc + 3, L2, st))
    | _ => none
  | .iadd => bin (pc + 1) L st (fun x y => x + y)
  | .isub => bin (pc + 1) L st (fun x y => x - y)
  | .imul => bin (pc + 1) L st (fun x y => x * y)
  | .idiv => bin0 (pc + 1) L st (fun x y => x / y)
  | .irem => bin0 (pc + 1) L st (fun x y => x - x / y * y)
  | .iand => bin (pc + 1) L st (fun x y => x &&& y)
  | .ior => bin (pc + 1) L st (fun x y => x ||| y)
  | .ishl => bin (pc + 1) L st (fun x y => x <<< (y &&& 31))
  | .ishr => bin (pc + 1) L st (fun x y => x >>> (y &&& 31))
  | .ineg => match st with
    | .inl x :: st => some (pc + 1, L, vi (-x) :: st)
    | _ => none
  | .i2l => match st with
    | .inl x :: st => some (pc + 1, L, vl x.toInt64 :: st)
    | _ => none
  | .i2d => match st with
    | .inl x :: st => some (pc + 1, L, vd (FP.i2d x) :: st)
    | _ => none
  | .i2c => match st with
    | .inl x :: st => some (pc + 1, L, vi (x.toUInt32 % 65536).toInt32 :: st)
    | _ => none
  | .lsub => match st with
    | .inr (.inr (.inl y)) :: .inr (.inr (.inl x)) :: st => some (pc + 1, L, vl (x - y) :: st)
    | _ => none
  | .land => match st with
    | .inr (.inr (.inl y)) :: .inr (.inr (.inl x)) :: st => some (pc + 1, L, vl (x &&& y) :: st)
    | _ => none
  | .lor => match st with
    | .inr (.inr (.inl y)) :: .inr (.inr (.inl x)) :: st => some (pc + 1, L, vl (x ||| y) :: st)
    | _ => none
  | .lshl => match st with
    | .inl y :: .inr (.inr (.inl x)) :: st => some (pc + 1, L, vl (x <<< (y.toInt64 &&& 63)) :: st)
    | _ => none
  | .lshr => match st with
    | .inl y :: .inr (.inr (.inl x)) :: st => some (pc + 1, L, vl (x >>> (y.toInt64 &&& 63)) :: st)
    | _ => none
  | .lcmp => match st with
    | .inr (.inr (.inl y)) :: .inr (.inr (.inl x)) :: st => some (pc + 1, L, vi (lg_cmp x y) :: st)
    | _ => none
  | .dcmp op => match st with
    | .inr (.inr (.inr (.inl y))) :: .inr (.inr (.inr (.inl x))) :: st => some (pc + 1, L, vi (Op.cmpValue (FP.dcmp x y) op) :: st)
    | _ => none
  | .ddiv => match st with
    | .inr (.inr (.inr (.inl y))) :: .inr (.inr (.inr (.inl x))) :: st => @ite _ (vf_n64 (FP.ddiv x y)) (Classical.propDecidable _) (some (pc + 1, L, vd (FP.ddiv x y) :: st)) none
    | _ => none
  | .dup => match st with
    | v :: st => bif iw v then none else some (pc + 1, L, v :: v :: st)
    | _ => none
  | .dup2 => match st with
    | v :: w :: st => bif iw v || iw w then none else some (pc + 1, L, v :: w :: v :: w :: st)
    | _ => none
  | .pop => match st with
    | v :: st => bif iw v then none else some (pc + 1, L, st)
    | _ => none
  | .goto _ => some (e.2.2.1, L, st)
  | .if_icmp c _ => match st with
    | .inl y :: .inl x :: st => some (cmpP c x y e.2.2.1 (pc + 3), L, st)
    | _ => none
  | .ifCond c _ => match st with
    | .inl x :: st => some (cmpP c x 0 e.2.2.1 (pc + 3), L, st)
    | _ => none
  | .ifnull _ => match st with
    | .inr (.inl r) :: st => some (match r with | none => e.2.2.1 | some _ => pc + 3, L, st)
    | _ => none
  | .ifnonnull _ => match st with
    | .inr (.inl r) :: st => some (match r with | none => pc + 3 | some _ => e.2.2.1, L, st)
    | _ => none
  | .tableswitch _ _ _ _ => match st with
    | .inl x :: st => some (swf (swl pc e.1).1 (swl pc e.1).2 x, L, st)
    | _ => none
  | .lookupswitch _ _ => match st with
    | .inl x :: st => some (swf (swl pc e.1).1 (swl pc e.1).2 x, L, st)
    | _ => none
  | _ => none
/-- an index within -/
def inb (i : Int32) (n : Nat) : Prop := 0 ≤ i.toInt ∧ i.toInt < n
/-- a choice by a proposition -/
noncomputable def pif {α : Type} (c : Prop) (x : Option α) : Option α := @ite _ c (Classical.propDecidable _) x none
abbrev HC : Type := Nat × List PV × PH
noncomputable def hGet (T : Nat → Nat) (e : PE) (pc : Nat) (st : List PV) (h : PH) : Option HC := match st with
  | .inr (.inl (some a)) :: st => pif (T a = e.2.2.1) (some (pc + 3, (bif Nat.beq e.2.2.2.2.1 1 then vr (gr h a e.2.2.2.1) else vi (gi h a e.2.2.2.1)) :: st, h))
  | _ => none
noncomputable def hPut (T : Nat → Nat) (e : PE) (pc : Nat) (st : List PV) (h : PH) : Option HC := match st with
  | .inl x :: .inr (.inl (some a)) :: st => pif (T a = e.2.2.1 ∧ (e.2.2.2.2.1 = 0 ∨ e.2.2.2.2.1 = 2 ∧ (x = 0 ∨ x = 1))) (some (pc + 3, st, si h a e.2.2.2.1 x))
  | .inr (.inl r) :: .inr (.inl (some a)) :: st => pif (T a = e.2.2.1 ∧ e.2.2.2.2.1 = 1) (some (pc + 3, st, sr h a e.2.2.2.1 r))
  | _ => none
/-- a place of an array: its index and address on the stack -/
noncomputable def hLd (P : Nat → Prop) (N : Nat → Nat) (v : Nat → Nat → PV) (pc : Nat) (st : List PV) (h : PH) : Option HC := match st with
  | .inl i :: .inr (.inl (some a)) :: st => pif (P a ∧ inb i (N a)) (some (pc + 1, v a i.toNatClampNeg :: st, h))
  | _ => none
noncomputable def hStI (t : Nat) (T N : Nat → Nat) (ok : Int32 → Prop) (pc : Nat) (st : List PV) (h : PH) : Option HC := match st with
  | .inl x :: .inl i :: .inr (.inl (some a)) :: st => pif (T a = t ∧ inb i (N a) ∧ ok x) (some (pc + 1, st, si h a i.toNatClampNeg x))
  | _ => none
noncomputable def hStL (T N : Nat → Nat) (pc : Nat) (st : List PV) (h : PH) : Option HC := match st with
  | .inr (.inr (.inl x)) :: .inl i :: .inr (.inl (some a)) :: st => pif (T a = 24 ∧ inb i (N a)) (some (pc + 1, st, sL h a i.toNatClampNeg x))
  | _ => none
noncomputable def hStD (T N : Nat → Nat) (pc : Nat) (st : List PV) (h : PH) : Option HC := match st with
  | .inr (.inr (.inr (.inl x))) :: .inl i :: .inr (.inl (some a)) :: st => pif (T a = 25 ∧ inb i (N a)) (some (pc + 1, st, sd h a i.toNatClampNeg x))
  | _ => none
noncomputable def hStA (T N : Nat → Nat) (pc : Nat) (st : List PV) (h : PH) : Option HC := match st with
  | .inr (.inl (some b)) :: .inl i :: .inr (.inl (some a)) :: st => pif ((1 ≤ T b ∧ T b ≤ 12 ∧ T b + 30 = T a) ∧ inb i (N a)) (some (pc + 1, st, sr h a i.toNatClampNeg (some b)))
  | _ => none
noncomputable def hLen (T N : Nat → Nat) (pc : Nat) (st : List PV) (h : PH) : Option HC := match st with
  | .inr (.inl (some a)) :: st => pif (21 ≤ T a) (some (pc + 1, vi (Int32.ofNat (N a)) :: st, h))
  | _ => none
noncomputable def hNewa (T N : Nat → Nat) (t pc : Nat) (st : List PV) (h : PH) : Option HC := match st with
  | .inl n :: st => pif (T (nx h) = t ∧ 0 ≤ n.toInt ∧ n.toInt = N (nx h) ∧ N (nx h) ≤ 65536) (some (pc, vr (some (nx h)) :: st, grow h (N (nx h))))
  | _ => none
/-- what an instruction does that speaks of the heap; T: the tags, N: the lengths of arrays, sz: the fields of a class -/
noncomputable def hstep (T N sz : Nat → Nat) (e : PE) (pc : Nat) (st : List PV) (h : PH) : Option HC :=
  match e.1 with
  | .getfield _ => hGet T e pc st h
  | .putfield _ => hPut T e pc st h
  | .iaload => hLd (fun a => T a = 22 ∨ T a = 21) N (fun a k => vi (gi h a k)) pc st h
  | .caload => hLd (fun a => T a = 23) N (fun a k => vi (gi h a k)) pc st h
  | .laload => hLd (fun a => T a = 24) N (fun a k => vl (gl h a k)) pc st h
  | .daload => hLd (fun a => T a = 25) N (fun a k => vd (gd h a k)) pc st h
  | .aaload => hLd (fun a => 30 ≤ T a) N (fun a k => vr (gr h a k)) pc st h
  | .arraylength => hLen T N pc st h
  | .iastore => hStI 22 T N (fun _ => True) pc st h
  | .castore => hStI 23 T N (fun x => 0 ≤ x.toInt ∧ x.toInt < 65536) pc st h
  | .lastore => hStL T N pc st h
  | .dastore => hStD T N pc st h
  | .aastore => hStA T N pc st h
  | .new _ => pif (e.2.2.1 < 50 ∧ T (nx h) = e.2.2.1) (some (pc + 3, vr (some (nx h)) :: st, grow h (sz e.2.2.1)))
  | .newarray _ => hNewa T N e.2.2.1 (pc + 2) st h
  | .anewarray _ => hNewa T N (30 + e.2.2.1) (pc + 3) st h
  | _ => none
/-- the JDK's members that are spoken of by a row of their own: 1000 Object(), 1001 max, 1002 min, 1003 abs, 1004 length, 1005 isEmpty, 1006 charAt; tx: the texts of the constants -/
noncomputable def jstep (tx : Nat → List Int32) (p : Nat) (st : List PV) : Option (List PV) :=
  match p with
  | 1000 => (match st with | .inr (.inl (some _)) :: st => some st | _ => none)
  | 1001 => (match st with | .inl y :: .inl x :: st => some (vi (if x < y then y else x) :: st) | _ => none)
  | 1002 => (match st with | .inl y :: .inl x :: st => some (vi (if y < x then y else x) :: st) | _ => none)
  | 1003 => (match st with | .inl x :: st => some (vi (if 0 ≤ x then x else 0 - x) :: st) | _ => none)
  | 1004 => (match st with | .inr (.inr (.inr (.inr j))) :: st => pif (j < 5) (some (vi (Int32.ofNat (tx j).length) :: st)) | _ => none)
  | 1005 => (match st with | .inr (.inr (.inr (.inr j))) :: st => pif (j < 5) (some (vi (if (tx j).length = 0 then 1 else 0) :: st)) | _ => none)
  | 1006 => (match st with | .inl i :: .inr (.inr (.inr (.inr j))) :: st => pif (j < 5 ∧ inb i (tx j).length) (some (vi ((tx j).getD i.toNatClampNeg 0) :: st)) | _ => none)
  | _ => none
/-- a method's locals at its entry -/
def ent (vs : List PV) (n : Nat) : PL := let l := vs.flatMap (fun v => bif iw v then [some v, none] else [some v]); l ++ List.replicate (n - l.length) none
/-- how a method ends: with a value or none, or with an exception of a class -/
abbrev PR : Type := Option PV ⊕ Nat
abbrev PO : Type := PR × PH
/-- what a method may hand back: rk 0 nothing, 1 an int, 2 a boolean, 3 a char, 4 a long, 5 a double, 6 a reference, 7 a text -/
noncomputable def retI (rk : Nat) (st : List PV) : Option (Option PV) := match st with
  | [.inl x] => pif (rk = 1 ∨ rk = 2 ∧ (x = 0 ∨ x = 1) ∨ rk = 3 ∧ 0 ≤ x.toInt ∧ x.toInt < 65536) (some (some (vi x)))
  | _ => none
noncomputable def rets (i : Instr) (rk : Nat) (st : List PV) : Option (Option PV) :=
  match i with
  | .return_ => (match st with | [] => pif (rk = 0) (some none) | _ => none)
  | .ireturn => retI rk st
  | .lreturn => (match st with | [.inr (.inr (.inl x))] => pif (rk = 4) (some (some (vl x))) | _ => none)
  | .dreturn => (match st with | [.inr (.inr (.inr (.inl x)))] => pif (rk = 5) (some (some (vd x))) | _ => none)
  | .areturn => (match st with | [.inr (.inl r)] => pif (rk = 6) (some (some (vr r))) | [.inr (.inr (.inr (.inr j)))] => pif (rk = 7) (some (some (vs j))) | _ => none)
  | _ => none
/-- the handler of this place for an exception of class E: its place, and where it keeps the exception -/
def hfind (pc E : Nat) : List (Nat × Nat × Nat × Nat × Nat) → Option (Nat × Nat)
  | [] => none
  | q :: r => bif Nat.ble q.1 pc && Nat.blt pc q.2.1 && Nat.beq q.2.2.2.1 E then some (q.2.2.1, q.2.2.2.2) else hfind pc E r
/-- the words of a stack -/
def wsum (st : List PV) : Nat := (st.map (fun v => bif iw v then 2 else 1)).sum
/-- a call can be made: its arguments lie on the stack, the receiver is of its class; loc: places for locals, rt: the receiver's tag -/
def cOK (loc rt : Nat → Nat) (T : Nat → Nat) (e : PE) (st : List PV) : Prop := e.2.2.2.1 ≤ st.length ∧ wsum (st.drop e.2.2.2.1) ≤ 8 ∧ (ent (st.take e.2.2.2.1).reverse (loc e.2.2.1)).length = loc e.2.2.1 ∧ (rt e.2.2.1 = 0 ∨ ∃ a, (st.take e.2.2.2.1).reverse.head? = some (vr (some a)) ∧ T a = rt e.2.2.1)
def isInv : Instr → Bool
  | .invokevirtual _ => true
  | .invokestatic _ => true
  | .invokespecial _ => true
  | _ => false
