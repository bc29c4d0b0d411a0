-- The abstract machine: own names for cells, whole numbers for all values; what one instruction does to it (xstep).
abbrev XV : Type := Int ⊕ Int ⊕ Int
abbrev xi (z : Int) : XV := .inl z
abbrev xl (z : Int) : XV := .inr (.inl z)
abbrev xr (z : Int) : XV := .inr (.inr z)
abbrev LL : Type := List (Option XV)
abbrev SL : Type := List XV
abbrev HH : Type := Nat → Nat → Int
abbrev AL : Type := Nat → Bool
/-- an instruction: itself, its length, a class / an array's type / a jump's place / how many arguments, a field's place / a code word, a type, a word, nest, a number, a method -/
abbrev XI : Type := Instr × Nat × Nat × Nat × Nat × Nat × Nat × Int × MethodName
/-- a method: name, bytes, locals, what it returns, that as a type number, its code word, its instructions in chunks -/
abbrev MD : Type := MethodName × ByteArray × Nat × Option FieldType × Nat × Nat × List (Nat × List (Nat × XI))
def y0 : MethodName := ⟨"", "", ""⟩
def qi (i : Instr) (l : Nat) : XI := (i, l, 0, 0, 0, 0, 0, 0, y0)
def qs (i : Instr) (l : Nat) : XI := (.nop, l, 0, 0, 0, 0, 0, 0, y0)
def qf (i : Instr) (l a b t w n : Nat) : XI := (i, l, a, b, t, w, n, 0, y0)
def qz (i : Instr) (l w : Nat) (z : Int) : XI := (i, l, 0, 0, 0, w, 0, z, y0)
def qt (i : Instr) (l t : Nat) : XI := (i, l, t, 0, 0, 0, 0, 0, y0)
def qm (i : Instr) (l n rc w nest : Nat) (y : MethodName) : XI := (i, l, n, rc, 0, w, nest, 0, y)
def qo (i : Instr) (l w : Nat) : XI := (i, l, 0, 0, 0, w, 7, 0, y0)
def qa (i : Instr) (l w : Nat) : XI := (i, l, 0, 0, 0, w, 8, 0, y0)
def fch : List (Nat × XI) → Nat → XI
  | [], _ => qi .nop 1
  | (p, i) :: l, pc => cond (Nat.beq p pc) i (fch l pc)
def fcb : List (Nat × List (Nat × XI)) → Nat → XI
  | [], _ => qi .nop 1
  | (b, l) :: r, pc => cond (Nat.ble pc b) (fch l pc) (fcb r pc)
def xfetch (M : MD) (pc : Nat) : XI := fcb M.2.2.2.2.2.2 pc
-- names of cells: kinds (0 .. 10 an object of that class, 50 + t an own array, 80 a constant row of ints, 90 a text), sizes
def kdT : List (List Nat) := [[9, 4, 53, 53, 54, 55, 99, 99, 99, 99, 8, 50, 50, 50, 50, 50],
  [99, 99, 99, 99, 8, 50, 50, 50, 50, 50, 99, 99, 99, 99, 8, 50],
  [50, 50, 50, 50, 99, 99, 99, 99, 6, 50, 99, 99, 99, 99, 99, 99],
  [99, 99, 1, 50, 50, 50, 99, 99, 99, 99, 99, 99, 0, 50, 99, 99],
  [99, 56, 5, 51, 5, 51, 5, 51, 5, 51, 5, 51, 5, 51, 50, 99],
  [7, 50, 50, 50, 50, 50, 7, 50, 50, 50, 50, 50, 7, 50, 50, 50],
  [50, 50, 7, 50, 50, 50, 50, 50, 7, 50, 50, 50, 50, 50, 7, 50],
  [50, 50, 50, 50, 99, 99, 99, 99, 10, 50, 50, 50, 50, 50, 50, 50],
  [50, 50, 50, 50, 50, 50, 50, 50, 50, 50, 50, 52, 50, 50, 50, 50],
  [50, 50, 52, 52, 50, 50, 50, 50, 50, 50, 50, 50, 50, 50, 50, 50],
  [50, 50, 50, 50, 50, 51, 51, 99, 99, 99, 99, 99, 99, 99, 99, 99],
  [99, 99, 99, 99, 80, 80, 80, 90, 90, 90, 90, 90, 90, 90, 90, 99],
  [99, 99, 99, 99, 99, 99, 99, 99, 3, 50, 3, 50, 3, 50, 3, 50],
  [3, 50, 3, 50, 3, 50, 3, 50, 3, 50, 3, 50, 3, 50, 3, 50],
  [99, 99, 99, 99, 99, 99, 99, 99, 99, 99, 99, 99, 99, 99, 99, 99]]
def lnT : List (List Nat) := [[0, 0, 6, 6, 5, 42, 0, 0, 0, 0, 0, 6, 6, 6, 6, 12],
  [0, 0, 0, 0, 0, 6, 6, 6, 6, 12, 0, 0, 0, 0, 0, 6],
  [6, 6, 6, 12, 0, 0, 0, 0, 0, 100, 0, 0, 0, 0, 0, 0],
  [0, 0, 0, 36, 6, 6, 0, 0, 0, 0, 0, 0, 0, 20, 0, 0],
  [0, 6, 0, 60, 0, 60, 0, 60, 0, 60, 0, 60, 0, 60, 6, 0],
  [0, 10, 10, 10, 100, 11, 0, 10, 10, 10, 100, 11, 0, 10, 10, 10],
  [100, 11, 0, 10, 10, 10, 100, 11, 0, 10, 10, 10, 100, 11, 0, 10],
  [10, 10, 100, 11, 0, 0, 0, 0, 0, 6, 6, 6, 6, 6, 6, 60],
  [6, 12, 100, 5, 50, 50, 50, 50, 500, 101, 20, 100, 6, 6, 6, 6],
  [6, 6, 36, 36, 6840, 6840, 6840, 6840, 6840, 6, 6, 6, 6, 6, 6, 6],
  [6, 12, 20, 6, 6, 360, 60, 0, 0, 0, 0, 0, 0, 0, 0, 0],
  [0, 0, 0, 0, 0, 7, 21, 0, 0, 0, 0, 0, 0, 0, 0, 0],
  [0, 0, 0, 0, 0, 0, 0, 0, 0, 10, 0, 10, 0, 10, 0, 10],
  [0, 10, 0, 10, 0, 10, 0, 10, 0, 10, 0, 10, 0, 10, 0, 10],
  [0, 0, 0, 0, 0, 0, 0, 0, 0, 0, 0, 0, 0, 0, 0, 0]]
def ftT : List (List Nat) := [[2, 0, 0, 0, 0], [2, 2, 2, 0, 0, 3, 0], [0, 0, 2, 2, 2, 2, 2, 2, 2, 0, 0, 0], [0, 0, 0, 2], [2, 2, 2, 2, 2, 0, 0, 0], [2, 0, 0], [2, 0, 0, 2, 0], [2, 2, 2, 2, 2, 0, 0, 0, 0], [2, 2, 2, 2, 2, 0, 0, 0, 0, 0, 0], [2, 2, 2, 2, 3, 2, 2, 2, 2, 2], [0, 0, 0, 0, 0, 0, 0, 2, 2, 2, 2, 2, 2, 2, 2, 2, 0, 0, 0, 0, 0, 2, 2, 2, 2, 2, 2, 2, 2, 0, 0, 0, 2, 2, 0, 0, 0, 2, 2, 2, 2, 2, 2, 2, 2, 2, 2, 2, 2, 2, 0, 2, 2, 2, 3, 0, 0, 0, 0, 0, 0, 0, 0, 2, 2, 2, 2, 2, 2, 0, 2, 2, 2, 2, 2]]
def kd (a : Nat) : Nat := cond (Nat.ble a 229) ((kdT.getD (a / 16) []).getD (a % 16) 99) (cond (Nat.ble 566 a) 99 (cond (Nat.beq ((a - 230) % 8) 0) 2 (cond (Nat.beq ((a - 230) % 8) 7) 99 50)))
def lnS (a : Nat) : Nat := cond (Nat.ble a 229) ((lnT.getD (a / 16) []).getD (a % 16) 0) (cond (Nat.ble 566 a) 0 (cond (Nat.beq ((a - 230) % 8) 0) 0 (cond (Nat.beq ((a - 230) % 8) 7) 0 (cond (Nat.beq ((a - 230) % 8) 6) 10 190))))
/-- what the launch gives: the classes' numbers, their fields' slots, the arrays' classes, the first address that is ours, the script's length -/
abbrev GC : Type := (Nat → ClassId) × (Nat → Nat → Nat) × (Nat → ClassId) × Nat × Nat
def ln (g : GC) (a : Nat) : Nat := cond (Nat.beq a 180) g.2.2.2.2 (lnS a)
def ftl (c : Nat) : List Nat := ftT.getD c []
def fty (c k : Nat) : Nat := (ftl c).getD k 0
def ety (t : Nat) : Nat := cond (Nat.beq t 0) 0 (cond (Nat.beq t 1) 1 (cond (Nat.beq t 2) 3 2))
/-- the type of what stands at place k of the cell a -/
def tyO (a k : Nat) : Nat := cond (Nat.ble (kd a) 49) (fty (kd a) k) (cond (Nat.ble (kd a) 79) (ety (kd a - 50)) 0)
def szO (g : GC) (a : Nat) : Nat := cond (Nat.ble (kd a) 49) (ftl (kd a)).length (ln g a)
abbrev rdv (ty : Nat) (z : Int) : XV := match ty with
  | 1 => xl z
  | 2 => xr z
  | _ => xi z
def uH (h : HH) (a k : Nat) (z : Int) : HH := fun a' k' => cond (Nat.beq a' a && Nat.beq k' k) z (h a' k')
def clr (h : HH) (o : Nat) : HH := fun a' k' => cond (Nat.beq a' o) (cond (Nat.beq (tyO o k') 2) (-1) 0) (h a' k')
def upA (al : AL) (o : Nat) : AL := fun a => cond (Nat.beq a o) true (al a)
def cpyH (h : HH) (o1 sp o2 dp n : Nat) : HH := fun a' k' => cond (Nat.beq a' o2 && (Nat.ble dp k' && Nat.blt k' (dp + n))) (h o1 (sp + (k' - dp))) (h a' k')
def wI (z : Int) : Int := (z + 2147483648) % 4294967296 - 2147483648
def wL (z : Int) : Int := (z + 9223372036854775808) % 18446744073709551616 - 9223372036854775808
def wB (z : Int) : Int := (z + 128) % 256 - 128
def wS (z : Int) : Int := (z + 32768) % 65536 - 32768
def wC (z : Int) : Int := z % 65536
def aI (x y : Int) : Int := (Int32.ofInt x &&& Int32.ofInt y).toInt
def oI (x y : Int) : Int := (Int32.ofInt x ||| Int32.ofInt y).toInt
def eI (x y : Int) : Int := (Int32.ofInt x ^^^ Int32.ofInt y).toInt
def shlI (x y : Int) : Int := (Int32.ofInt x <<< (Int32.ofInt y &&& 31)).toInt
def shrI (x y : Int) : Int := (Int32.ofInt x >>> (Int32.ofInt y &&& 31)).toInt
def aL (x y : Int) : Int := (Int64.ofInt x &&& Int64.ofInt y).toInt
def oL (x y : Int) : Int := (Int64.ofInt x ||| Int64.ofInt y).toInt
def shlL (x y : Int) : Int := (Int64.ofInt x <<< ((Int32.ofInt y).toInt64 &&& 63)).toInt
def cmpL (x y : Int) : Int := if y < x then 1 else if x = y then 0 else -1
def getL : LL → Nat → Option XV
  | [], _ => none
  | a :: _, 0 => a
  | _ :: l, i + 1 => getL l i
/-- a local becomes v; a long that stood in the place before it goes -/
def setK : LL → Nat → XV → (LL → Prop) → Prop
  | [], _, _, _ => False
  | _ :: l, 0, v, k => k (some v :: l)
  | a :: l, i + 1, v, k => setK l i v fun l' => match i, a with
      | 0, some (.inr (.inl _)) => k (none :: l')
      | _, a => k (a :: l')
/-- a long takes two places -/
def setK2 (l : LL) (i : Nat) (v : XV) (k : LL → Prop) : Prop := setK l (i + 1) v fun l' => setK l' i v fun l'' => match l'' with
  | l'' => killK l'' (i + 1) k
where killK : LL → Nat → (LL → Prop) → Prop
  | [], _, _ => False
  | _ :: l, 0, k => k (none :: l)
  | a :: l, i + 1, k => killK l i fun l' => k (a :: l')
def popK : Nat → SL → SL → (SL → SL → Prop) → Prop
  | 0, S, acc, k => k acc S
  | n + 1, v :: S, acc, k => popK n S (v :: acc) k
  | _ + 1, [], _, _ => False
def csum : SL → Nat
  | [] => 0
  | .inr (.inl _) :: l => 2 + csum l
  | _ :: l => 1 + csum l
def swT (x : Int) (k : Int) : List Int → Nat → (Int → Prop) → Prop
  | [], _, _ => True
  | o :: os, i, q => (x = k + i → q o) ∧ swT x k os (i + 1) q
def swtP (x k : Int) (d : Int) (q : Int → Prop) : List Int → Prop
  | [] => q d
  | o :: os => if x = k then q o else swtP x (k + 1) d q os
def swlP (x : Int) (d : Int) (q : Int → Prop) : List (Int × Int) → Prop
  | [] => q d
  | (k, o) :: os => if x = k then q o else swlP x d q os
def retP (t : Nat) (x : Int) (q : Prop) : Prop := match t with
  | 0 => q
  | 3 => (x = 0 ∨ x = 1) ∧ q
  | 4 => (-128 ≤ x ∧ x < 128) ∧ q
  | 5 => (0 ≤ x ∧ x < 65536) ∧ q
  | _ => False
def condP (c : ClassFile.Cond) (x y : Int) (p q : Prop) : Prop := match c with
  | .eq => if x = y then p else q
  | .ne => if x = y then q else p
  | .lt => if x < y then p else q
  | .ge => if x < y then q else p
  | .gt => if y < x then p else q
  | .le => if y < x then q else p
def binP (S : SL) (f : Int → Int → Int) (k : SL → Prop) : Prop := match S with
  | .inl y :: .inl x :: r => k (xi (f x y) :: r)
  | _ => False
def unP (S : SL) (f : Int → Int) (k : SL → Prop) : Prop := match S with
  | .inl x :: r => k (xi (f x) :: r)
  | _ => False
def binL (S : SL) (f : Int → Int → Int) (k : SL → Prop) : Prop := match S with
  | .inr (.inl y) :: .inr (.inl x) :: r => k (xl (f x y) :: r)
  | _ => False
def ldI (L : LL) (i : Nat) (S : SL) (k : SL → Prop) : Prop := match getL L i with
  | some (.inl x) => k (xi x :: S)
  | _ => False
def ldL (L : LL) (i : Nat) (S : SL) (k : SL → Prop) : Prop := match getL L i with
  | some (.inr (.inl x)) => k (xl x :: S)
  | _ => False
def ldR (L : LL) (i : Nat) (S : SL) (k : SL → Prop) : Prop := match getL L i with
  | some (.inr (.inr x)) => k (xr x :: S)
  | _ => False
def stI (L : LL) (i : Nat) (S : SL) (k : LL → SL → Prop) : Prop := match S with
  | .inl x :: r => setK L i (xi x) fun L' => k L' r
  | _ => False
def stL (L : LL) (i : Nat) (S : SL) (k : LL → SL → Prop) : Prop := match S with
  | .inr (.inl x) :: r => setK2 L i (xl x) fun L' => k L' r
  | _ => False
def stR (L : LL) (i : Nat) (S : SL) (k : LL → SL → Prop) : Prop := match S with
  | .inr (.inr x) :: r => setK L i (xr x) fun L' => k L' r
  | _ => False
def isA (t : Nat) (o : Nat) : Bool := Nat.beq (kd o) (50 + t) || (Nat.beq t 0 && Nat.beq (kd o) 80)
def ixP (g : GC) (o : Nat) (j : Int) (q : Prop) : Prop := (0 ≤ j ∧ j < (ln g o : Int)) ∧ q
def aldP (g : GC) (t : Nat) (S : SL) (k : Nat → Nat → SL → Prop) : Prop := match S with
  | .inl j :: .inr (.inr (.ofNat o)) :: r => cond (isA t o) (ixP g o j (k o j.toNat r)) False
  | _ => False
def aldRP (g : GC) (S : SL) (k : Nat → Nat → SL → Prop) : Prop := match S with
  | .inl j :: .inr (.inr (.ofNat o)) :: r => cond (Nat.ble 53 (kd o) && Nat.ble (kd o) 56) (ixP g o j (k o j.toNat r)) False
  | _ => False
/-- the class of what an array of references holds -/
def eCl (t : Nat) : Nat := match t with
  | 3 => 3
  | 4 => 7
  | 5 => 2
  | 6 => 5
  | _ => 98
/-- the one that is called is of the kind c -/
def rcv (c : Nat) (As : SL) : Bool := match As with
  | .inr (.inr (.ofNat o)) :: _ => Nat.beq (kd o) c
  | _ => false
/-- null, or one of ours -/
def nk (z : Int) : Bool := match z with
  | .ofNat o => Nat.ble (kd o) 79
  | .negSucc _ => true
def xstep (g : GC) (C : MethodName → SL → HH → AL → (Option XV → HH → AL → Prop) → Prop) (M : MD) (Q : Option XV → HH → AL → Prop) (k : Nat → LL → SL → HH → AL → Prop) (pc : Nat) (L : LL) (S : SL) (h : HH) (al : AL) : Prop :=
  match xfetch M pc with
  | (i, len, a, b, t, w, n, z, y) => match i with
    | .iconst v => k (pc + 1) L (xi v :: S) h al
    | .bipush v => k (pc + 2) L (xi v :: S) h al
    | .sipush v => k (pc + 3) L (xi v :: S) h al
    | .lconst v => k (pc + 1) L (xl (v.val : Nat) :: S) h al
    | .aconst_null => k (pc + 1) L (xr (-1) :: S) h al
    | .ldc _ => cond (Nat.beq t 2) (k (pc + 2) L (xr a :: S) h al) (k (pc + 2) L (xi z :: S) h al)
    | .ldc_w _ => k (pc + 3) L (xi z :: S) h al
    | .ldc2_w _ => k (pc + 3) L (xl z :: S) h al
    | .iload i => ldI L i S fun S' => k (pc + 2) L S' h al
    | .iload_n i => ldI L i.val S fun S' => k (pc + 1) L S' h al
    | .lload i => ldL L i S fun S' => k (pc + 2) L S' h al
    | .lload_n i => ldL L i.val S fun S' => k (pc + 1) L S' h al
    | .aload i => ldR L i S fun S' => k (pc + 2) L S' h al
    | .aload_n i => ldR L i.val S fun S' => k (pc + 1) L S' h al
    | .istore i => stI L i S fun L' S' => k (pc + 2) L' S' h al
    | .istore_n i => stI L i.val S fun L' S' => k (pc + 1) L' S' h al
    | .lstore i => stL L i S fun L' S' => k (pc + 2) L' S' h al
    | .lstore_n i => stL L i.val S fun L' S' => k (pc + 1) L' S' h al
    | .astore i => stR L i S fun L' S' => k (pc + 2) L' S' h al
    | .astore_n i => stR L i.val S fun L' S' => k (pc + 1) L' S' h al
    | .iinc i v => match getL L i with
      | some (.inl x) => setK L i (xi (wI (x + v))) fun L' => k (pc + 3) L' S h al
      | _ => False
    | .iadd => binP S (fun x y => wI (x + y)) fun S' => k (pc + 1) L S' h al
    | .isub => binP S (fun x y => wI (x - y)) fun S' => k (pc + 1) L S' h al
    | .imul => binP S (fun x y => wI (x * y)) fun S' => k (pc + 1) L S' h al
    | .iand => binP S aI fun S' => k (pc + 1) L S' h al
    | .ior => binP S oI fun S' => k (pc + 1) L S' h al
    | .ixor => binP S eI fun S' => k (pc + 1) L S' h al
    | .ishl => binP S shlI fun S' => k (pc + 1) L S' h al
    | .ishr => binP S shrI fun S' => k (pc + 1) L S' h al
    | .ineg => unP S (fun x => wI (-x)) fun S' => k (pc + 1) L S' h al
    | .i2b => unP S wB fun S' => k (pc + 1) L S' h al
    | .i2s => unP S wS fun S' => k (pc + 1) L S' h al
    | .i2c => unP S wC fun S' => k (pc + 1) L S' h al
    | .idiv => match S with
      | .inl y :: .inl x :: r => y ≠ 0 ∧ k (pc + 1) L (xi (wI (x.tdiv y)) :: r) h al
      | _ => False
    | .irem => match S with
      | .inl y :: .inl x :: r => y ≠ 0 ∧ k (pc + 1) L (xi (x.tmod y) :: r) h al
      | _ => False
    | .ladd => binL S (fun x y => wL (x + y)) fun S' => k (pc + 1) L S' h al
    | .land => binL S aL fun S' => k (pc + 1) L S' h al
    | .lor => binL S oL fun S' => k (pc + 1) L S' h al
    | .ldiv => match S with
      | .inr (.inl y) :: .inr (.inl x) :: r => y ≠ 0 ∧ k (pc + 1) L (xl (wL (x.tdiv y)) :: r) h al
      | _ => False
    | .lrem => match S with
      | .inr (.inl y) :: .inr (.inl x) :: r => y ≠ 0 ∧ k (pc + 1) L (xl (x.tmod y) :: r) h al
      | _ => False
    | .lneg => match S with
      | .inr (.inl x) :: r => k (pc + 1) L (xl (wL (-x)) :: r) h al
      | _ => False
    | .lshl => match S with
      | .inl y :: .inr (.inl x) :: r => k (pc + 1) L (xl (shlL x y) :: r) h al
      | _ => False
    | .lcmp => match S with
      | .inr (.inl y) :: .inr (.inl x) :: r => k (pc + 1) L (xi (cmpL x y) :: r) h al
      | _ => False
    | .i2l => match S with
      | .inl x :: r => k (pc + 1) L (xl x :: r) h al
      | _ => False
    | .l2i => match S with
      | .inr (.inl x) :: r => k (pc + 1) L (xi (wI x) :: r) h al
      | _ => False
    | .dup => match S with
      | .inl x :: r => k (pc + 1) L (xi x :: xi x :: r) h al
      | .inr (.inr x) :: r => k (pc + 1) L (xr x :: xr x :: r) h al
      | _ => False
    | .dup2 => match S with
      | .inl x :: .inr (.inr y) :: r => k (pc + 1) L (xi x :: xr y :: xi x :: xr y :: r) h al
      | _ => False
    | .pop => match S with
      | .inl _ :: r => k (pc + 1) L r h al
      | .inr (.inr _) :: r => k (pc + 1) L r h al
      | _ => False
    | .goto _ => k a L S h al
    | .ifCond c _ => match S with
      | .inl x :: r => condP c x 0 (k a L r h al) (k (pc + 3) L r h al)
      | _ => False
    | .if_icmp c _ => match S with
      | .inl y :: .inl x :: r => condP c x y (k a L r h al) (k (pc + 3) L r h al)
      | _ => False
    | .if_acmp .ne _ => match S with
      | .inr (.inr y) :: .inr (.inr x) :: r => cond (nk x || nk y) (if x = y then k (pc + 3) L r h al else k a L r h al) False
      | _ => False
    | .ifnull _ => match S with
      | .inr (.inr x) :: r => if x < 0 then k a L r h al else k (pc + 3) L r h al
      | _ => False
    | .ifnonnull _ => match S with
      | .inr (.inr x) :: r => if x < 0 then k (pc + 3) L r h al else k a L r h al
      | _ => False
    | .tableswitch d lo _ os => match S with
      | .inl x :: r => swtP x lo d (fun o => k (pc + o).toNat L r h al) os.toList
      | _ => False
    | .lookupswitch d ps => match S with
      | .inl x :: r => swlP x d (fun o => k (pc + o).toNat L r h al) ps.toList
      | _ => False
    | .getfield _ => match S with
      | .inr (.inr (.ofNat o)) :: r => cond (Nat.beq (kd o) a) (k (pc + 3) L (rdv t (h o b) :: r) h al) False
      | _ => False
    | .putfield _ => match S with
      | .inl x :: .inr (.inr (.ofNat o)) :: r => cond (Nat.beq (kd o) a) (retP t x (k (pc + 3) L r (uH h o b x) al)) False
      | .inr (.inr x) :: .inr (.inr (.ofNat o)) :: r => cond (Nat.beq (kd o) a && Nat.beq t 2) (k (pc + 3) L r (uH h o b x) al) False
      | _ => False
    | .getstatic _ => k (pc + 3) L (xr a :: S) h al
    | .arraylength => match S with
      | .inr (.inr (.ofNat o)) :: r => cond (Nat.ble 50 (kd o) && Nat.ble (kd o) 80) (k (pc + 1) L (xi (ln g o : Int) :: r) h al) False
      | _ => False
    | .iaload => aldP g 0 S fun o j r => k (pc + 1) L (xi (h o j) :: r) h al
    | .baload => aldP g 2 S fun o j r => k (pc + 1) L (xi (h o j) :: r) h al
    | .laload => aldP g 1 S fun o j r => k (pc + 1) L (xl (h o j) :: r) h al
    | .aaload => aldRP g S fun o j r => k (pc + 1) L (xr (h o j) :: r) h al
    | .iastore => match S with
      | .inl x :: .inl j :: .inr (.inr (.ofNat o)) :: r => cond (Nat.beq (kd o) 50) (ixP g o j (k (pc + 1) L r (uH h o j.toNat x) al)) False
      | _ => False
    | .bastore => match S with
      | .inl x :: .inl j :: .inr (.inr (.ofNat o)) :: r => cond (Nat.beq (kd o) 52) (ixP g o j ((x = 0 ∨ x = 1) ∧ k (pc + 1) L r (uH h o j.toNat x) al)) False
      | _ => False
    | .lastore => match S with
      | .inr (.inl x) :: .inl j :: .inr (.inr (.ofNat o)) :: r => cond (Nat.beq (kd o) 51) (ixP g o j (k (pc + 1) L r (uH h o j.toNat x) al)) False
      | _ => False
    | .aastore => match S with
      | .inr (.inr (.ofNat v)) :: .inl j :: .inr (.inr (.ofNat o)) :: r => cond (Nat.ble 53 (kd o) && (Nat.ble (kd o) 56 && Nat.beq (kd v) (eCl (kd o - 50)))) (ixP g o j (k (pc + 1) L r (uH h o j.toNat v) al)) False
      | _ => False
    | .new _ => ∃ o, kd o = a ∧ al o = false ∧ k (pc + 3) L (xr (Int.ofNat o) :: S) (clr h o) (upA al o)
    | .newarray _ => match S with
      | .inl x :: r => ∃ o, kd o = 50 + a ∧ al o = false ∧ x = (ln g o : Int) ∧ k (pc + 2) L (xr (Int.ofNat o) :: r) (clr h o) (upA al o)
      | _ => False
    | .anewarray _ => match S with
      | .inl x :: r => ∃ o, kd o = 50 + a ∧ al o = false ∧ x = (ln g o : Int) ∧ k (pc + 3) L (xr (Int.ofNat o) :: r) (clr h o) (upA al o)
      | _ => False
    | .invokespecial _ => cond (Nat.beq n 7)
      (match S with
        | .inr (.inr (.ofNat _)) :: r => cond (Nat.ble (csum r) 8) (k (pc + 3) L r h al) False
        | _ => False)
      (popK (a + 1) S [] fun As r => cond (rcv b As && Nat.ble (csum r) 8) (C y As h al fun v h' al' => k (pc + 3) L (v.toList ++ r) h' al') False)
    | .invokevirtual _ => popK (a + 1) S [] fun As r => cond (rcv b As && Nat.ble (csum r) 8) (C y As h al fun v h' al' => k (pc + 3) L (v.toList ++ r) h' al') False
    | .invokestatic _ => cond (Nat.beq n 8)
      (match S with
        | .inl x :: .inl dp :: .inr (.inr (.ofNat o2)) :: .inl sp :: .inr (.inr (.ofNat o1)) :: r =>
          cond (Nat.ble (csum r) 8 && (Nat.beq (kd o1) (kd o2) && (Nat.beq (kd o1) 50 || Nat.beq (kd o1) 51)))
            ((0 ≤ x ∧ 0 ≤ sp ∧ 0 ≤ dp ∧ sp + x ≤ (ln g o1 : Int) ∧ dp + x ≤ (ln g o2 : Int)) ∧ k (pc + 3) L r (cpyH h o1 sp.toNat o2 dp.toNat x.toNat) al) False
        | _ => False)
      (popK a S [] fun As r => cond (Nat.ble (csum r) 8) (C y As h al fun v h' al' => k (pc + 3) L (v.toList ++ r) h' al') False)
    | .ireturn => match S with
      | .inl x :: [] => retP M.2.2.2.2.1 x (Q (some (xi x)) h al)
      | _ => False
    | .lreturn => match S with
      | .inr (.inl x) :: [] => Q (some (xl x)) h al
      | _ => False
    | .areturn => match S with
      | .inr (.inr x) :: [] => Q (some (xr x)) h al
      | _ => False
    | .return_ => match S with
      | [] => Q none h al
      | _ => False
    | _ => False
